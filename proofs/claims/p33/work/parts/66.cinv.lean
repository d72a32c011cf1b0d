/-! the class as a whole: who owns which cell -/
def gU (G : List gS) (R : gV) (T : gT) (ow : Nat → Nat) (us : Prop) (g w : Nat) : Prop := ∃ (p n : Nat) (C D : Int) (o m : Nat) (E : Int), gI G R T g p n C D o m E ∧ (us → D ≤ C) ∧ (∀ c, g ≤ c → c ≤ g + 21 → ow c = g) ∧ ow p = g ∧ ow o = g ∧ w = 5000 + 2 * n + 2 * m
def bU (G : List gS) (R : gV) (T : gT) (ow : Nat → Nat) (b : Nat) : Prop := bT G R T b ∧ ∀ c, b ≤ c → c ≤ b + 4 → ow c = b
def bN (G : List gS) (R : gV) (T : gT) (ow : Nat → Nat) (us : Nat → Prop) (B b : Nat) (d : gD) : Prop := bU G R T ow b ∧ ∃ (g : Nat) (i : Int), (0 ≤ i ∧ i < 5) ∧ R b 0 = (g : Int) ∧ R (B + 19) i = (g : Int) ∧ us g ∧ lkT T R g d
def cC (G : List gS) (R : gV) (T : gT) (ow : Nat → Nat) (B M : Nat) (W : gV) (L : Int → Int) : Prop := (lay7 G R B) ∧ (fT G R T (B + 3)) ∧ (kT G R T (B + 15)) ∧ (∀ i v, T (B + 2) i v) ∧ (∀ v, T B 7 v) ∧ (∀ v, T B 8 v ↔ v = L 200) ∧ (∀ s : Nat, s < 4 → R (B + 1) (s : Int) = ((B + 21 + 2 * s : Nat) : Int) ∧ lay5 G R (B + 21 + 2 * s) ∧ (∀ v, T (B + 21 + 2 * s) 1 v ↔ v = L (10 + s)) ∧ (∀ v, T (B + 21 + 2 * s) 2 v ↔ v = L s) ∧ (∀ i v, T (B + 21 + 2 * s + 1) i v ↔ (0 ≤ i → i < 8 → v = L (100 + 8 * s + i)))) ∧ (R B 6 = ((B + 52 : Nat) : Int)) ∧ (∀ c, B ≤ c → c ≤ B + 28 → ow c = B) ∧ (lay8 G R M) ∧ (∀ c, M ≤ c → c ≤ M + 35 → ow c = M) ∧ (∀ c i v, M ≤ c → c ≤ M + 35 → T c i v → v = W c i) ∧ (M = B + 57)
theorem cC.ly {G : List gS} {R : gV} {T : gT} {ow : Nat → Nat} {B M : Nat} {W : gV} {L : Int → Int} (h : cC G R T ow B M W L) : lay7 G R B := h.1
theorem cC.fi {G : List gS} {R : gV} {T : gT} {ow : Nat → Nat} {B M : Nat} {W : gV} {L : Int → Int} (h : cC G R T ow B M W L) : fT G R T (B + 3) := h.2.1
theorem cC.mk' {G : List gS} {R : gV} {T : gT} {ow : Nat → Nat} {B M : Nat} {W : gV} {L : Int → Int} (h : cC G R T ow B M W L) : kT G R T (B + 15) := h.2.2.1
theorem cC.sc {G : List gS} {R : gV} {T : gT} {ow : Nat → Nat} {B M : Nat} {W : gV} {L : Int → Int} (h : cC G R T ow B M W L) : ∀ i v, T (B + 2) i v := h.2.2.2.1
theorem cC.re {G : List gS} {R : gV} {T : gT} {ow : Nat → Nat} {B M : Nat} {W : gV} {L : Int → Int} (h : cC G R T ow B M W L) : ∀ v, T B 7 v := h.2.2.2.2.1
theorem cC.mi {G : List gS} {R : gV} {T : gT} {ow : Nat → Nat} {B M : Nat} {W : gV} {L : Int → Int} (h : cC G R T ow B M W L) : ∀ v, T B 8 v ↔ v = L 200 := h.2.2.2.2.2.1
theorem cC.sh {G : List gS} {R : gV} {T : gT} {ow : Nat → Nat} {B M : Nat} {W : gV} {L : Int → Int} (h : cC G R T ow B M W L) : ∀ s : Nat, s < 4 → R (B + 1) (s : Int) = ((B + 21 + 2 * s : Nat) : Int) ∧ lay5 G R (B + 21 + 2 * s) ∧ (∀ v, T (B + 21 + 2 * s) 1 v ↔ v = L (10 + s)) ∧ (∀ v, T (B + 21 + 2 * s) 2 v ↔ v = L s) ∧ (∀ i v, T (B + 21 + 2 * s + 1) i v ↔ (0 ≤ i → i < 8 → v = L (100 + 8 * s + i))) := h.2.2.2.2.2.2.1
theorem cC.rb {G : List gS} {R : gV} {T : gT} {ow : Nat → Nat} {B M : Nat} {W : gV} {L : Int → Int} (h : cC G R T ow B M W L) : R B 6 = ((B + 52 : Nat) : Int) := h.2.2.2.2.2.2.2.1
theorem cC.bo {G : List gS} {R : gV} {T : gT} {ow : Nat → Nat} {B M : Nat} {W : gV} {L : Int → Int} (h : cC G R T ow B M W L) : ∀ c, B ≤ c → c ≤ B + 28 → ow c = B := h.2.2.2.2.2.2.2.2.1
theorem cC.lm {G : List gS} {R : gV} {T : gT} {ow : Nat → Nat} {B M : Nat} {W : gV} {L : Int → Int} (h : cC G R T ow B M W L) : lay8 G R M := h.2.2.2.2.2.2.2.2.2.1
theorem cC.mo {G : List gS} {R : gV} {T : gT} {ow : Nat → Nat} {B M : Nat} {W : gV} {L : Int → Int} (h : cC G R T ow B M W L) : ∀ c, M ≤ c → c ≤ M + 35 → ow c = M := h.2.2.2.2.2.2.2.2.2.2.1
theorem cC.fz {G : List gS} {R : gV} {T : gT} {ow : Nat → Nat} {B M : Nat} {W : gV} {L : Int → Int} (h : cC G R T ow B M W L) : ∀ c i v, M ≤ c → c ≤ M + 35 → T c i v → v = W c i := h.2.2.2.2.2.2.2.2.2.2.2.1
theorem cC.hM {G : List gS} {R : gV} {T : gT} {ow : Nat → Nat} {B M : Nat} {W : gV} {L : Int → Int} (h : cC G R T ow B M W L) : M = B + 57 := h.2.2.2.2.2.2.2.2.2.2.2.2
theorem cC.mk {G : List gS} {R : gV} {T : gT} {ow : Nat → Nat} {B M : Nat} {W : gV} {L : Int → Int} (h_ly : lay7 G R B) (h_fi : fT G R T (B + 3)) (h_mk' : kT G R T (B + 15)) (h_sc : ∀ i v, T (B + 2) i v) (h_re : ∀ v, T B 7 v) (h_mi : ∀ v, T B 8 v ↔ v = L 200) (h_sh : ∀ s : Nat, s < 4 → R (B + 1) (s : Int) = ((B + 21 + 2 * s : Nat) : Int) ∧ lay5 G R (B + 21 + 2 * s) ∧ (∀ v, T (B + 21 + 2 * s) 1 v ↔ v = L (10 + s)) ∧ (∀ v, T (B + 21 + 2 * s) 2 v ↔ v = L s) ∧ (∀ i v, T (B + 21 + 2 * s + 1) i v ↔ (0 ≤ i → i < 8 → v = L (100 + 8 * s + i)))) (h_rb : R B 6 = ((B + 52 : Nat) : Int)) (h_bo : ∀ c, B ≤ c → c ≤ B + 28 → ow c = B) (h_lm : lay8 G R M) (h_mo : ∀ c, M ≤ c → c ≤ M + 35 → ow c = M) (h_fz : ∀ c i v, M ≤ c → c ≤ M + 35 → T c i v → v = W c i) (h_hM : M = B + 57) : cC G R T ow B M W L := ⟨h_ly, h_fi, h_mk', h_sc, h_re, h_mi, h_sh, h_rb, h_bo, h_lm, h_mo, h_fz, h_hM⟩
def sw (w : Nat → Nat) : Nat := w 0 + w 1 + w 2 + w 3 + w 4 + w 5 + w 6 + w 7
def upN (w : Nat → Nat) (k x : Nat) : Nat → Nat := fun j => if j = k then x else w j
theorem sw_up {w : Nat → Nat} {k x : Nat} (hk : k < 8) : sw (upN w k x) + w k = sw w + x := by
  have : k = 0 ∨ k = 1 ∨ k = 2 ∨ k = 3 ∨ k = 4 ∨ k = 5 ∨ k = 6 ∨ k = 7 := by omega
  rcases this with h | h | h | h | h | h | h | h <;> subst h <;> simp [sw, upN] <;> omega
theorem upN_s {w : Nat → Nat} {k x : Nat} : upN w k x k = x := by simp [upN]
theorem upN_n {w : Nat → Nat} {k x j : Nat} (h : j ≠ k) : upN w k x j = w j := by simp [upN, h]
def cI (G : List gS) (R : gV) (V : gV) (B M S : Nat) (T : gT) (ow : Nat → Nat) (us : Nat → Prop) (w : Nat → Nat) (W : gV) (L : Int → Int) (I : Int → gD) : Prop := (TH T V) ∧ (cC G R T ow B M W L) ∧ (∀ i : Nat, i < 5 → (R (B + 19) (i : Int) = -1 ∧ w i = 0) ∨ ∃ g : Nat, R (B + 19) (i : Int) = (g : Int) ∧ B + 28 < g ∧ gU G R T ow (us g) g (w i)) ∧ (∀ (i j g : Nat), i < 5 → j < 5 → R (B + 19) (i : Int) = (g : Int) → R (B + 19) (j : Int) = (g : Int) → i = j) ∧ (∀ k : Nat, k < 3 → (R (B + 20) (k : Int) = -1 ∧ I (10 + k) 0 0 = 0 ∧ w (5 + k) = 0) ∨ ∃ b : Nat, R (B + 20) (k : Int) = (b : Int) ∧ I (10 + k) 0 0 = 1 ∧ w (5 + k) = 6000 ∧ bN G R T ow us B b (I k)) ∧ (bN G R T ow us B (B + 52) (I 3)) ∧ (szG G ≤ S + sw w) ∧ (∀ (j k b : Nat), j < 3 → k < 3 → R (B + 20) (j : Int) = (b : Int) → R (B + 20) (k : Int) = (b : Int) → j = k) ∧ (∀ (k b : Nat), k < 3 → R (B + 20) (k : Int) = (b : Int) → b ≠ B + 52) ∧ (rwT T (B + 52) (I 23)) ∧ (∀ (k b : Nat), k < 3 → R (B + 20) (k : Int) = (b : Int) → rwT T b (I (20 + k)))
theorem cI.th {G : List gS} {R : gV} {V : gV} {B M S : Nat} {T : gT} {ow : Nat → Nat} {us : Nat → Prop} {w : Nat → Nat} {W : gV} {L : Int → Int} {I : Int → gD} (h : cI G R V B M S T ow us w W L I) : TH T V := h.1
theorem cI.c {G : List gS} {R : gV} {V : gV} {B M S : Nat} {T : gT} {ow : Nat → Nat} {us : Nat → Prop} {w : Nat → Nat} {W : gV} {L : Int → Int} {I : Int → gD} (h : cI G R V B M S T ow us w W L I) : cC G R T ow B M W L := h.2.1
theorem cI.gr {G : List gS} {R : gV} {V : gV} {B M S : Nat} {T : gT} {ow : Nat → Nat} {us : Nat → Prop} {w : Nat → Nat} {W : gV} {L : Int → Int} {I : Int → gD} (h : cI G R V B M S T ow us w W L I) : ∀ i : Nat, i < 5 → (R (B + 19) (i : Int) = -1 ∧ w i = 0) ∨ ∃ g : Nat, R (B + 19) (i : Int) = (g : Int) ∧ B + 28 < g ∧ gU G R T ow (us g) g (w i) := h.2.2.1
theorem cI.gd {G : List gS} {R : gV} {V : gV} {B M S : Nat} {T : gT} {ow : Nat → Nat} {us : Nat → Prop} {w : Nat → Nat} {W : gV} {L : Int → Int} {I : Int → gD} (h : cI G R V B M S T ow us w W L I) : ∀ (i j g : Nat), i < 5 → j < 5 → R (B + 19) (i : Int) = (g : Int) → R (B + 19) (j : Int) = (g : Int) → i = j := h.2.2.2.1
theorem cI.im {G : List gS} {R : gV} {V : gV} {B M S : Nat} {T : gT} {ow : Nat → Nat} {us : Nat → Prop} {w : Nat → Nat} {W : gV} {L : Int → Int} {I : Int → gD} (h : cI G R V B M S T ow us w W L I) : ∀ k : Nat, k < 3 → (R (B + 20) (k : Int) = -1 ∧ I (10 + k) 0 0 = 0 ∧ w (5 + k) = 0) ∨ ∃ b : Nat, R (B + 20) (k : Int) = (b : Int) ∧ I (10 + k) 0 0 = 1 ∧ w (5 + k) = 6000 ∧ bN G R T ow us B b (I k) := h.2.2.2.2.1
theorem cI.be {G : List gS} {R : gV} {V : gV} {B M S : Nat} {T : gT} {ow : Nat → Nat} {us : Nat → Prop} {w : Nat → Nat} {W : gV} {L : Int → Int} {I : Int → gD} (h : cI G R V B M S T ow us w W L I) : bN G R T ow us B (B + 52) (I 3) := h.2.2.2.2.2.1
theorem cI.sz {G : List gS} {R : gV} {V : gV} {B M S : Nat} {T : gT} {ow : Nat → Nat} {us : Nat → Prop} {w : Nat → Nat} {W : gV} {L : Int → Int} {I : Int → gD} (h : cI G R V B M S T ow us w W L I) : szG G ≤ S + sw w := h.2.2.2.2.2.2.1
theorem cI.ix {G : List gS} {R : gV} {V : gV} {B M S : Nat} {T : gT} {ow : Nat → Nat} {us : Nat → Prop} {w : Nat → Nat} {W : gV} {L : Int → Int} {I : Int → gD} (h : cI G R V B M S T ow us w W L I) : ∀ (j k b : Nat), j < 3 → k < 3 → R (B + 20) (j : Int) = (b : Int) → R (B + 20) (k : Int) = (b : Int) → j = k := h.2.2.2.2.2.2.2.1
theorem cI.iy {G : List gS} {R : gV} {V : gV} {B M S : Nat} {T : gT} {ow : Nat → Nat} {us : Nat → Prop} {w : Nat → Nat} {W : gV} {L : Int → Int} {I : Int → gD} (h : cI G R V B M S T ow us w W L I) : ∀ (k b : Nat), k < 3 → R (B + 20) (k : Int) = (b : Int) → b ≠ B + 52 := h.2.2.2.2.2.2.2.2.1
theorem cI.kr {G : List gS} {R : gV} {V : gV} {B M S : Nat} {T : gT} {ow : Nat → Nat} {us : Nat → Prop} {w : Nat → Nat} {W : gV} {L : Int → Int} {I : Int → gD} (h : cI G R V B M S T ow us w W L I) : rwT T (B + 52) (I 23) := h.2.2.2.2.2.2.2.2.2.1
theorem cI.ki {G : List gS} {R : gV} {V : gV} {B M S : Nat} {T : gT} {ow : Nat → Nat} {us : Nat → Prop} {w : Nat → Nat} {W : gV} {L : Int → Int} {I : Int → gD} (h : cI G R V B M S T ow us w W L I) : ∀ (k b : Nat), k < 3 → R (B + 20) (k : Int) = (b : Int) → rwT T b (I (20 + k)) := h.2.2.2.2.2.2.2.2.2.2
theorem cI.mk {G : List gS} {R : gV} {V : gV} {B M S : Nat} {T : gT} {ow : Nat → Nat} {us : Nat → Prop} {w : Nat → Nat} {W : gV} {L : Int → Int} {I : Int → gD} (h_th : TH T V) (h_c : cC G R T ow B M W L) (h_gr : ∀ i : Nat, i < 5 → (R (B + 19) (i : Int) = -1 ∧ w i = 0) ∨ ∃ g : Nat, R (B + 19) (i : Int) = (g : Int) ∧ B + 28 < g ∧ gU G R T ow (us g) g (w i)) (h_gd : ∀ (i j g : Nat), i < 5 → j < 5 → R (B + 19) (i : Int) = (g : Int) → R (B + 19) (j : Int) = (g : Int) → i = j) (h_im : ∀ k : Nat, k < 3 → (R (B + 20) (k : Int) = -1 ∧ I (10 + k) 0 0 = 0 ∧ w (5 + k) = 0) ∨ ∃ b : Nat, R (B + 20) (k : Int) = (b : Int) ∧ I (10 + k) 0 0 = 1 ∧ w (5 + k) = 6000 ∧ bN G R T ow us B b (I k)) (h_be : bN G R T ow us B (B + 52) (I 3)) (h_sz : szG G ≤ S + sw w) (h_ix : ∀ (j k b : Nat), j < 3 → k < 3 → R (B + 20) (j : Int) = (b : Int) → R (B + 20) (k : Int) = (b : Int) → j = k) (h_iy : ∀ (k b : Nat), k < 3 → R (B + 20) (k : Int) = (b : Int) → b ≠ B + 52) (h_kr : rwT T (B + 52) (I 23)) (h_ki : ∀ (k b : Nat), k < 3 → R (B + 20) (k : Int) = (b : Int) → rwT T b (I (20 + k))) : cI G R V B M S T ow us w W L I := ⟨h_th, h_c, h_gr, h_gd, h_im, h_be, h_sz, h_ix, h_iy, h_kr, h_ki⟩
section
variable {G G' : List gS} {R R' V V' : gV} {T T' : gT} {ow ow' : Nat → Nat} {us us' : Nat → Prop} {w w' : Nat → Nat} {W : gV} {L : Int → Int} {I : Int → gD} {B M S g b x v : Nat} {u : Prop}
theorem ltG {s : gS} {c : Nat} (h : G[c]? = some s) : c < G.length := (List.getElem?_eq_some_iff.mp h).1
theorem gI_lt {p n o m : Nat} {C D E : Int} (h : gI G R T g p n C D o m E) : g + 21 < G.length ∧ p < G.length ∧ o < G.length := ⟨by have := ltG (ly4_12 h.u.h.a.ly).2; omega, ltG h.u.t.gp, ltG h.u.h.go⟩
theorem bT_lt (h : bT G R T b) : b + 4 < G.length := ltG (ly1_5 h.ly).2
/-- what is kept when only cells of one owner change, and new ones come -/
def tch (G : List gS) (R : gV) (T : gT) (ow : Nat → Nat) (x : Nat) (G' : List gS) (R' : gV) (T' : gT) (ow' : Nat → Nat) : Prop := gX2 G G' ∧ (∀ c, c < G.length → ow c ≠ x → T' c = T c) ∧ (∀ c i, c < G.length → ow c ≠ x → R' c i = R c i) ∧ (∀ c, c < G.length → ow' c = ow c)
theorem gU_m (h : gU G R T ow u g v) (t : tch G R T ow x G' R' T' ow') (hx : g ≠ x) : gU G' R' T' ow' u g v := by
  obtain ⟨p, n, C, D, o, m, E, a, b, c, d, e, f⟩ := h
  obtain ⟨t1, t2, t3, t4⟩ := t
  obtain ⟨l1, l2, l3⟩ := gI_lt a
  refine ⟨p, n, C, D, o, m, E, gI.mk (gT2_m a.u t1 (fun c' i z1 z2 => t3 c' i (by omega) (by rw [c c' z1 z2]; exact hx)) (fun c' z1 z2 => t2 c' (by omega) (by rw [c c' z1 z2]; exact hx)) (t2 p l2 (by rw [d]; exact hx)) (t2 o l3 (by rw [e]; exact hx))) a.p1 a.p2 a.o1 a.po a.n1 a.m1, b, fun c' z1 z2 => by rw [t4 c' (by omega)]; exact c c' z1 z2, by rw [t4 p l2]; exact d, by rw [t4 o l3]; exact e, f⟩
theorem lkT_t {d : gD} (k : lkT T R g d) (h : gU G R T ow u g v) (t : tch G R T ow x G' R' T' ow') (hx : g ≠ x) : lkT T' R' g d := by
  obtain ⟨p, n, C, D, o, m, E, a, b, c, dd, e, f⟩ := h
  obtain ⟨t1, t2, t3, t4⟩ := t
  obtain ⟨l1, l2, l3⟩ := gI_lt a
  refine lkT_m k (fun c' w1 w2 => t2 _ (by omega) (by rw [c _ (by omega) (by omega)]; exact hx)) (t3 _ _ (by omega) (by rw [c _ (by omega) (by omega)]; exact hx)) (t3 _ _ (by omega) (by rw [c _ (by omega) (by omega)]; exact hx)) (fun p' q => ?_)
  have r1 := a.u.t.rp
  have r2 := a.u.h.ro
  rcases q with q | q
  · have ep : p' = p := by omega
    rw [ep]
    exact t2 p l2 (by rw [dd]; exact hx)
  · have ep : p' = o := by omega
    rw [ep]
    exact t2 o l3 (by rw [e]; exact hx)
theorem bU_m (h : bU G R T ow b) (t : tch G R T ow x G' R' T' ow') (hx : b ≠ x) : bU G' R' T' ow' b := by
  obtain ⟨t1, t2, t3, t4⟩ := t
  have l := bT_lt h.1
  exact ⟨bT_m h.1 t1 (fun i _ => t3 b i (by omega) (by rw [h.2 b (by omega) (by omega)]; exact hx)) (fun c z1 z2 => t2 c (by omega) (by rw [h.2 c z1 z2]; exact hx)), fun c z1 z2 => by rw [t4 c (by omega)]; exact h.2 c z1 z2⟩
theorem lay8_m {A : Nat} (h : lay8 G R A) (hG : gX2 G G') (e : ∀ i, R' A i = R A i) : lay8 G' R' A := ⟨hG _ _ (ly8_o h), ⟨(e 1).trans (ly8_1 h).1, hG _ _ (ly8_1 h).2⟩, ⟨(e 2).trans (ly8_2 h).1, hG _ _ (ly8_2 h).2⟩, ⟨(e 3).trans (ly8_3 h).1, hG _ _ (ly8_3 h).2⟩, ⟨(e 6).trans (ly8_6 h).1, hG _ _ (ly8_6 h).2⟩, ⟨(e 7).trans (ly8_7 h).1, hG _ _ (ly8_7 h).2⟩, ⟨(e 8).trans (ly8_8 h).1, hG _ _ (ly8_8 h).2⟩, ⟨(e 9).trans (ly8_9 h).1, hG _ _ (ly8_9 h).2⟩, ⟨(e 11).trans (ly8_11 h).1, hG _ _ (ly8_11 h).2⟩, ⟨(e 14).trans (ly8_14 h).1, hG _ _ (ly8_14 h).2⟩, ⟨(e 15).trans (ly8_15 h).1, hG _ _ (ly8_15 h).2⟩, ⟨(e 16).trans (ly8_16 h).1, hG _ _ (ly8_16 h).2⟩, ⟨(e 17).trans (ly8_17 h).1, hG _ _ (ly8_17 h).2⟩, ⟨(e 18).trans (ly8_18 h).1, hG _ _ (ly8_18 h).2⟩, ⟨(e 19).trans (ly8_19 h).1, hG _ _ (ly8_19 h).2⟩, ⟨(e 20).trans (ly8_20 h).1, hG _ _ (ly8_20 h).2⟩, ⟨(e 21).trans (ly8_21 h).1, hG _ _ (ly8_21 h).2⟩, ⟨(e 22).trans (ly8_22 h).1, hG _ _ (ly8_22 h).2⟩, ⟨(e 23).trans (ly8_23 h).1, hG _ _ (ly8_23 h).2⟩, ⟨(e 24).trans (ly8_24 h).1, hG _ _ (ly8_24 h).2⟩, ⟨(e 25).trans (ly8_25 h).1, hG _ _ (ly8_25 h).2⟩, ⟨(e 28).trans (ly8_28 h).1, hG _ _ (ly8_28 h).2⟩, ⟨(e 29).trans (ly8_29 h).1, hG _ _ (ly8_29 h).2⟩, ⟨(e 30).trans (ly8_30 h).1, hG _ _ (ly8_30 h).2⟩, ⟨(e 31).trans (ly8_31 h).1, hG _ _ (ly8_31 h).2⟩, ⟨(e 33).trans (ly8_33 h).1, hG _ _ (ly8_33 h).2⟩, ⟨(e 34).trans (ly8_34 h).1, hG _ _ (ly8_34 h).2⟩, ⟨(e 36).trans (ly8_36 h).1, hG _ _ (ly8_36 h).2⟩, ⟨(e 38).trans (ly8_38 h).1, hG _ _ (ly8_38 h).2⟩, ⟨(e 39).trans (ly8_39 h).1, hG _ _ (ly8_39 h).2⟩, ⟨(e 40).trans (ly8_40 h).1, hG _ _ (ly8_40 h).2⟩, ⟨(e 41).trans (ly8_41 h).1, hG _ _ (ly8_41 h).2⟩, ⟨(e 42).trans (ly8_42 h).1, hG _ _ (ly8_42 h).2⟩, ⟨(e 43).trans (ly8_43 h).1, hG _ _ (ly8_43 h).2⟩, ⟨(e 44).trans (ly8_44 h).1, hG _ _ (ly8_44 h).2⟩, ⟨(e 45).trans (ly8_45 h).1, hG _ _ (ly8_45 h).2⟩⟩
theorem cC_m (h : cC G R T ow B M W L) (hG : gX2 G G') (hT : ∀ c, c < G.length → (ow c = B ∨ ow c = M) → T' c = T c) (hR : ∀ c i, c < G.length → (ow c = B ∨ ow c = M) → c ≠ B + 19 → c ≠ B + 20 → R' c i = R c i) (ho : ∀ c, c < G.length → ow' c = ow c) : cC G' R' T' ow' B M W L := by
  have lM : M + 35 < G.length := ltG (ly8_45 h.lm).2
  have hM := h.hM
  have kB : ∀ c, B ≤ c → c ≤ B + 28 → T' c = T c := fun c z1 z2 => hT c (by omega) (Or.inl (h.bo c z1 z2))
  have kR : ∀ c i, B ≤ c → c ≤ B + 28 → c ≠ B + 19 → c ≠ B + 20 → R' c i = R c i := fun c i z1 z2 => hR c i (by omega) (Or.inl (h.bo c z1 z2))
  have f := fT_m (T' := T') h.fi hG (fun i => kR _ i (by omega) (by omega) (by omega) (by omega)) (fun c z1 z2 => kB c (by omega) (by omega))
  have k := kT_m (T' := T') h.mk' hG (fun i => kR _ i (by omega) (by omega) (by omega) (by omega)) (fun c z1 z2 => kB c (by omega) (by omega))
  have r0 : ∀ i, R' B i = R B i := fun i => kR _ i (by omega) (by omega) (by omega) (by omega)
  refine cC.mk (lay7_m h.ly hG ⟨r0 _, r0 _, r0 _, r0 _, r0 _, r0 _⟩ f.ly k.ly) f k (by rw [kB _ (by omega) (by omega)]; exact h.sc) (by rw [kB _ (by omega) (by omega)]; exact h.re) (by rw [kB _ (by omega) (by omega)]; exact h.mi) ?_ ((r0 6).trans h.rb) (fun c z1 z2 => by rw [ho c (by omega)]; exact h.bo c z1 z2) (lay8_m h.lm hG (fun i => hR M i (by omega) (Or.inr (h.mo M (by omega) (by omega))) (by omega) (by omega))) (fun c z1 z2 => by rw [ho c (by omega)]; exact h.mo c z1 z2) (fun c i v z1 z2 => by rw [hT c (by omega) (Or.inr (h.mo c z1 z2))]; exact h.fz c i v z1 z2) hM
  intro s hs
  obtain ⟨q1, q2, q3, q4, q5⟩ := h.sh s hs
  exact ⟨by rw [kR _ _ (by omega) (by omega) (by omega) (by omega)]; exact q1, lay5_m q2 hG (kR _ _ (by omega) (by omega) (by omega) (by omega)), by rw [kB _ (by omega) (by omega)]; exact q3, by rw [kB _ (by omega) (by omega)]; exact q4, by rw [kB _ (by omega) (by omega)]; exact q5⟩
theorem ob {ci cj a c : Nat} (h1 : G[a]? = some (gO ci)) (h2 : G[c]? = some (gO cj)) (h : ci ≠ cj) : a ≠ c := by
  intro e
  rw [e, h2] at h1
  cases h1
  exact h rfl
end
