/-! growing from a head, and the whole search -/
abbrev Sgr (f : Nat) : Nat → Int → Prop := fun c i => (c = f ∧ i ≠ 9) ∨ (f + 1 ≤ c ∧ c ≤ f + 7) ∨ c = f + 10 ∨ c = f + 11
theorem stX_m {V0 V V' : gV} {f x p : Nat} (h : stX V0 V f x p) (e0 : V' f 0 = V f 0) (e5 : V' f 5 = V f 5) (e1 : ∀ i, V' (f + 1) i = V (f + 1) i) (e2 : ∀ i, V' (f + 2) i = V (f + 2) i) (e55 : ∀ i, V' (f + 5) i = V (f + 5) i) (e6 : ∀ i, V' (f + 6) i = V (f + 6) i) (e7 : ∀ i, V' (f + 7) i = V (f + 7) i) : stX V0 V' f x p := by
  have eh : ∀ k, hS V' f k = hS V f k := fun k => hS_c (e1 k) (e2 k)
  obtain ⟨⟨a1, a2, a3⟩, b, kd, cx, rp, c0⟩ := h
  refine ⟨⟨by rw [e0]; exact a1, fun k k0 k1 => by rw [eh]; exact a2 k k0 (by omega), fun i j i0 ij j1 => by rw [eh, eh]; exact a3 i j i0 ij (by omega)⟩, by rw [e0, e5]; exact b, fun κ q0 q1 => ?_, ?_, fun k k0 k1 => ?_, by rw [eh]; exact c0⟩
  · have q := kd κ q0 (by omega)
    refine ⟨by rw [e55, e0]; exact q.1, ?_⟩
    rw [e55, eh, e6]
    have em : (fun m => V' (f + 7) (κ * 8 + m)) = fun m => V (f + 7) (κ * 8 + m) := funext (fun m => e7 _)
    rw [em]
    exact q.2
  · intro k m k0 k1 m0 m1
    obtain ⟨j, j0, j1, j2⟩ := cx k m k0 (by omega) m0 m1
    exact ⟨j, j0, by omega, by rw [eh, eh]; exact j2⟩
  · obtain ⟨κ, a, w1, w2, w3, w4, w5⟩ := rp k k0 (by omega)
    exact ⟨κ, a, w1, by omega, w3, w4, by rw [e55, eh, eh]; exact w5⟩
theorem sm_z : ∀ n : Nat, sm (fun _ => 0) n = 0 := by
  intro n
  induction n with
  | zero => rfl
  | succ n ih => show sm (fun _ => 0) n + 0 = 0; omega
theorem szX_m {V0 V V' : gV} {f x p : Nat} (h : szX V0 V f x p) (e0 : V' f 0 = V f 0) (e5 : V' f 5 = V f 5) (e1 : ∀ i, V' (f + 1) i = V (f + 1) i) (e2 : ∀ i, V' (f + 2) i = V (f + 2) i) (e3 : ∀ i, V' (f + 3) i = V (f + 3) i) (e4 : ∀ i, V' (f + 4) i = V (f + 4) i) : szX V0 V' f x p := by
  have eh : ∀ k, hS V' f k = hS V f k := fun k => hS_c (e1 k) (e2 k)
  exact ⟨fun k k0 k1 => by rw [e3, eh]; exact h.1 k k0 (by omega), fun k k0 k1 => by rw [e4, e5]; exact h.2.1 k k0 (by omega), fun i j i0 i1 j0 j1 => by rw [e4, e4, eh, eh]; exact h.2.2 i j i0 (by omega) j0 (by omega)⟩
/-- all closed sets are among those found -/
def fnX (V0 V : gV) (f x p : Nat) : Prop := stX V0 V f x p ∧ szX V0 V f x p ∧ ∀ W, SM (V0 x 1) (pMul V0 x p) W → ∃ k, 0 ≤ k ∧ k < V f 0 ∧ req (V0 x 1) (hS V f k) W
theorem or_uni {mul : Int → Int → Int} {x : Int} {a b : Nat} (ha : isOr mul x a) (hb : isOr mul x b) : a = b := by
  rcases Nat.lt_trichotomy a b with q | q | q
  · exact absurd ha.2.1 (hb.2.2 a ha.1 q)
  · exact q
  · exact absurd hb.2.1 (ha.2.2 b hb.1 q)
section
variable {G : List gS} {R V V0 : gV} {T : gT} {f x p n : Nat} {C D : Int}
theorem se_ok (tx : tX V0 x p) (se : seX V0 V f x p) : ∀ y (o : Nat), 0 ≤ y → y < V0 x 1 → isOr (pMul V0 x p) y o → ppf o = true → ∃ t, 0 ≤ t ∧ t < V0 x 1 ∧ (∃ i, 0 ≤ i ∧ i < V f 9 ∧ V (f + 8) i = t) ∧ (∃ i, t = pw (pMul V0 x p) y i) ∧ ∃ j, y = pw (pMul V0 x p) t j := by
  intro y o y0 y1 ho hpp
  have g := tx.2.2.1
  have N1 := tx.1
  have least : ∀ (w : Nat) (t : Int), (0 ≤ t ∧ t < V0 x 1 ∧ (∃ i, t = pw (pMul V0 x p) y i) ∧ isOr (pMul V0 x p) t o) → t.toNat = w → ∃ t0, (0 ≤ t0 ∧ t0 < V0 x 1 ∧ (∃ i, t0 = pw (pMul V0 x p) y i) ∧ isOr (pMul V0 x p) t0 o) ∧ ∀ t', (0 ≤ t' ∧ t' < V0 x 1 ∧ (∃ i, t' = pw (pMul V0 x p) y i) ∧ isOr (pMul V0 x p) t' o) → t0 ≤ t' := by
    intro w
    induction w using Nat.strongRecOn with
    | ind w ih =>
      intro t ht tw
      by_cases q : ∀ t', (0 ≤ t' ∧ t' < V0 x 1 ∧ (∃ i, t' = pw (pMul V0 x p) y i) ∧ isOr (pMul V0 x p) t' o) → t ≤ t'
      · exact ⟨t, ht, q⟩
      · obtain ⟨t', q⟩ := Classical.not_forall.mp q
        obtain ⟨q1, q2⟩ := Classical.not_imp.mp q
        exact ih t'.toNat (by have := q1.1; have := ht.1; omega) t' q1 rfl
  obtain ⟨t0, ⟨a0, a1, ⟨i0, ai⟩, ao⟩, mn⟩ := least _ y ⟨y0, y1, ⟨1, (pw_1 g ⟨y0, y1⟩).symm⟩, ho⟩ rfl
  have od : ∀ t, 0 ≤ t → t < V0 x 1 → ∀ o', isOr (pMul V0 x p) t o' → (V0 (x + 3) t).toNat = o' := fun t t0 t1 o' h => or_uni (tx.2.2.2.1 t t0 t1).2 h
  have p1 : 1 ≤ t0 := by
    apply Classical.byContradiction
    intro q
    have e : t0 = 0 := by omega
    rw [e] at ao
    have one : isOr (pMul V0 x p) 0 1 := ⟨by omega, pw_0 g 1, fun k k0 k1 => by omega⟩
    have := or_uni ao one
    rw [this] at hpp
    exact absurd hpp (by decide)
  have fs : fst0 V0 x p t0 := by
    intro i i1 i2 hh
    have r := pw_r g (x := t0) ⟨a0, a1⟩ i
    have oi := (tx.2.2.2.1 _ r.1 r.2).2
    rw [hh.2, od t0 a0 a1 o ao] at oi
    have := mn _ ⟨r.1, r.2, ⟨i0 * i, by rw [ai, pw_mul g ⟨y0, y1⟩]⟩, oi⟩
    have := hh.1
    omega
  have sd := se.2.2 t0 p1 a1 (by rw [od t0 a0 a1 o ao]; exact hpp) fs
  refine ⟨t0, a0, a1, sd, ⟨i0, ai⟩, ?_⟩
  have o2 : 2 ≤ o := by
    have := ho.1
    by_cases q : o = 1
    · rw [q] at hpp; exact absurd hpp (by decide)
    · omega
  have canc : ∀ a b : Nat, a < b → b < o → pw (pMul V0 x p) t0 a ≠ pw (pMul V0 x p) t0 b := by
    intro a b ab bo e
    obtain ⟨c, rfl⟩ : ∃ c, b = a + c := ⟨b - a, by omega⟩
    rw [pw_add g ⟨a0, a1⟩] at e
    have ra := pw_r g (x := t0) ⟨a0, a1⟩ a
    have rc := pw_r g (x := t0) ⟨a0, a1⟩ c
    have z : (0 : Int) = pw (pMul V0 x p) t0 c := GT_cl g ra ⟨Int.le_refl _, by omega⟩ rc (by rw [(g.2.2.1 _ ra.1 ra.2).2]; exact e)
    exact ao.2.2 c (by omega) (by omega) z.symm
  have pe : ∀ a : Nat, pw (pMul V0 x p) t0 a = pw (pMul V0 x p) y ((i0 * a) % o) := fun a => by rw [ai, pw_mul g ⟨y0, y1⟩, or_mod g ⟨y0, y1⟩ ho]
  have inj : ∀ i j : Int, 0 ≤ i → i < (o : Int) → 0 ≤ j → j < (o : Int) → (((i0 * i.toNat) % o : Nat) : Int) = (((i0 * j.toNat) % o : Nat) : Int) → i = j := by
    intro i j i0' i1 j0 j1 e
    have e2 : (i0 * i.toNat) % o = (i0 * j.toNat) % o := by omega
    have e3 : pw (pMul V0 x p) t0 i.toNat = pw (pMul V0 x p) t0 j.toNat := by rw [pe, pe, e2]
    rcases Int.lt_trichotomy i j with q | q | q
    · exact absurd e3 (canc _ _ (by omega) (by omega))
    · exact q
    · exact absurd e3.symm (canc _ _ (by omega) (by omega))
  obtain ⟨i, i1, i2, i3⟩ := pig (φ := fun i : Int => (((i0 * i.toNat) % o : Nat) : Int)) (n := (o : Int)) (by omega) (fun i _ _ => by have := Nat.mod_lt (i0 * i.toNat) (show 0 < o by omega); omega) inj (y := 1) (by omega) (by omega)
  refine ⟨i.toNat, ?_⟩
  rw [pe, show (i0 * i.toNat) % o = 1 by omega, pw_1 g ⟨y0, y1⟩]
theorem growFrom_x (c : fc G R T f x p n C D V0) (h : fv T f V0 V) (sx : stX V0 V f x p) (sz : szX V0 V f x p) (se : seX V0 V f x p) (le : leX V0 V f x p) {k : Int} (k0 : 0 ≤ k ∧ k < V f 5) : cwv 4 (fun r V' => ∃ v : Int, r = some (0, v) ∧ (TH T V' ∧ Fr (Sgr f) V V' ∧ ((v = 0 ∧ tooMany (V0 x 1) (pMul V0 x p)) ∨ (v = 1 ∧ (stX V0 V' f x p ∧ szX V0 V' f x p) ∧ (V f 5 ≤ V' f 5 ∧ V f 0 ≤ V' f 0) ∧ (∀ j, 0 ≤ j → j < V f 0 → hS V' f j = hS V f j) ∧ (∀ κ, 0 ≤ κ → κ < V f 5 → V' (f + 5) κ = V (f + 5) κ) ∧ ∀ i, 0 ≤ i → i < V f 9 → fdn (V0 x 1) (V' f 0) (pMul V0 x p) (hS V' f) (V (f + 5) k) (V (f + 8) i))))) 45 [(4, (f : Int)), (0, k), (4, (x : Int))] G R V := by
  have u := c.1
  have tx := c.2.2.2.2.2
  have N1 := tx.1
  have g := tx.2.2.1
  have s9 := se.1
  have hH := sx.1.1
  have kK := sx.2.1
  have kk := sx.2.2.1 k k0.1 k0.2
  have kk1 := kk.1
  refine c_X3_growFrom (t_X3_growFrom_0 u.ly c.2.1.ly ⟨by omega, fun _ => ?_⟩)
  refine cw0_u (by omega) (gatherMembers_x c h (a := V (f + 5) k) (by omega)) (fun V1 h1 => ?_)
  obtain ⟨th1, f1, me1, mc1⟩ := h1
  refine loop1 (f := fun i => [some (4, (f : Int)), some (0, k), some (4, (x : Int)), some (0, V (f + 5) k), some (0, i)]) (Inv := fun i V2 => TH T V2 ∧ Fr (Sgr f) V V2 ∧ (stX V0 V2 f x p ∧ szX V0 V2 f x p ∧ V2 f 12 = sm (hS V f (V (f + 5) k)) (V0 x 1).toNat) ∧ meX V0 V2 f x (hS V f (V (f + 5) k)) ∧ (V f 5 ≤ V2 f 5 ∧ V f 0 ≤ V2 f 0) ∧ (∀ j, 0 ≤ j → j < V f 0 → hS V2 f j = hS V f j) ∧ (∀ κ, 0 ≤ κ → κ < V f 5 → V2 (f + 5) κ = V (f + 5) κ) ∧ (0 ≤ i ∧ i ≤ V f 9) ∧ ∀ i', 0 ≤ i' → i' < i → fdn (V0 x 1) (V2 f 0) (pMul V0 x p) (hS V2 f) (V (f + 5) k) (V (f + 8) i')) (μ := fun i _ => (120 - i).toNat) (fun i V2 hi ih => ?_) 0 V1 ⟨th1, Fr_m f1 (by omega), ⟨stX_m sx (f1 _ _ (by omega)) (f1 _ _ (by omega)) (fun i => f1 _ _ (by omega)) (fun i => f1 _ _ (by omega)) (fun i => f1 _ _ (by omega)) (fun i => f1 _ _ (by omega)) (fun i => f1 _ _ (by omega)), szX_m sz (f1 _ _ (by omega)) (f1 _ _ (by omega)) (fun i => f1 _ _ (by omega)) (fun i => f1 _ _ (by omega)) (fun i => f1 _ _ (by omega)) (fun i => f1 _ _ (by omega)), mc1⟩, me1, by rw [f1 _ _ (by omega), f1 _ _ (by omega)]; omega, fun j _ _ => hS_c (f1 _ _ (by omega)) (f1 _ _ (by omega)), fun κ _ _ => f1 _ _ (by omega), by omega, fun i' q0 q1 => by omega⟩
  obtain ⟨th2, fr2, ⟨st2, sz2, mc2⟩, me2, mo2, hh2, kh2, i0, dn2⟩ := hi
  have h2 : fv T f V0 V2 := fv_m h th2 fr2 (by omega)
  have q9 : V2 f 9 = V f 9 := fr2 _ _ (by omega)
  have q8 : ∀ j, V2 (f + 8) j = V (f + 8) j := fun j => fr2 _ _ (by omega)
  have q99 : ∀ j, V2 (f + 9) j = V (f + 9) j := fun j => fr2 _ _ (by omega)
  have hd2 : hS V2 f (V (f + 5) k) = hS V f (V (f + 5) k) := hh2 _ kk1.1 kk1.2
  have k2 : V2 (f + 5) k = V (f + 5) k := kh2 k k0.1 k0.2
  have H2 := st2.1.1
  refine t_X3_growFrom_16 u.ly c.2.1.ly (fun _ => ⟨by omega, fun z => ⟨1, rfl, th2, fr2, Or.inr ⟨rfl, ⟨st2, sz2⟩, mo2, hh2, kh2, fun i' p0 p1 => dn2 i' p0 (by omega)⟩⟩, fun z => ⟨by omega, fun _ _ => ⟨by omega, fun _ => ?_⟩⟩⟩)
  rw [q9] at z
  have sd := se.2.1 i i0.1 z
  rw [q8]
  have up : ∀ (V3 : gV), V2 f 0 ≤ V3 f 0 → (∀ j, 0 ≤ j → j < V2 f 0 → hS V3 f j = hS V2 f j) → fdn (V0 x 1) (V3 f 0) (pMul V0 x p) (hS V3 f) (V (f + 5) k) (V (f + 8) i) → ∀ i', 0 ≤ i' → i' < i + 1 → fdn (V0 x 1) (V3 f 0) (pMul V0 x p) (hS V3 f) (V (f + 5) k) (V (f + 8) i') := by
    intro V3 hl he fd i' p0 p1
    by_cases y : i' = i
    · rw [y]; exact fd
    · have s' := se.2.1 i' p0 (by omega)
      exact fdn_congr (fun k' k0' k1' t _ _ => by rw [he k' k0' k1']) (by omega) (by omega) hl (dn2 i' p0 (by omega))
  refine cpI_u (by omega) (holds_e (by omega)) ⟨by rcases bt_01 (V2 (f + 1) (V (f + 5) k)) (V2 (f + 2) (V (f + 5) k)) (V (f + 8) i) with w | w <;> omega, fun z1 => ⟨by omega, ih _ _ ⟨th2, fr2, ⟨st2, sz2, mc2⟩, me2, mo2, hh2, kh2, by omega, up V2 (Int.le_refl _) (fun _ _ _ => rfl) (fdn_self (by omega) ?_)⟩ (by omega)⟩, fun z1 _ => ?_⟩
  · rcases bt_01 (V2 (f + 1) (V (f + 5) k)) (V2 (f + 2) (V (f + 5) k)) (V (f + 8) i) with w | w
    · exact absurd w z1
    · exact w
  have kd2 := st2.2.2.1 k k0.1 (by omega)
  have zs : hS V2 f (V2 (f + 5) k) (V (f + 8) i) = 0 := by rw [k2]; exact z1
  have zb2 := (st2.1.2.1 (V2 (f + 5) k) kd2.1.1 kd2.1.2).2
  rw [q8]
  refine cw0_u (by omega) (close_x c h2 (k := k) (a := V (f + 8) i) (by omega) (by have := kd2.1; omega) (by rw [k2, hd2]; exact me2) kd2.2 zb2 (by omega) (by rw [k2, hd2]; exact mc2)) (fun V3 h3 => ?_)
  obtain ⟨th3, f3, cl3, z3, s17⟩ := h3
  have nh := fh_new g (by omega) kd2.2 (t := V (f + 8) i) (by omega) zs (mr' := mrX V2 f k (V (f + 8) i)) (fun m m0 m1 => mrX_f (by omega)) (mrX_t rfl) cl3
  have e30 : V3 f 0 = V2 f 0 := f3 _ _ (by omega)
  have e35 : V3 f 5 = V2 f 5 := f3 _ _ (by omega)
  have e355 : ∀ j, V3 (f + 5) j = V2 (f + 5) j := fun j => f3 _ _ (by omega)
  have e36 : ∀ j, V3 (f + 6) j = V2 (f + 6) j := fun j => f3 _ _ (by omega)
  have e37 : ∀ j, V3 (f + 7) j = V2 (f + 7) j := fun j => f3 _ _ (by omega)
  have e38 : ∀ j, V3 (f + 8) j = V (f + 8) j := fun j => by rw [f3 _ _ (by omega)]; exact q8 j
  have e3h : ∀ j, hS V3 f j = hS V2 f j := fun j => hS_c (f3 _ _ (by omega)) (f3 _ _ (by omega))
  have st3 : stX V0 V3 f x p := stX_m st2 e30 e35 (fun j => f3 _ _ (by omega)) (fun j => f3 _ _ (by omega)) e355 e36 e37
  have fr3 : Fr (Sgr f) V V3 := Fr_t fr2 (Fr_m f3 (by omega))
  have sz3 : szX V0 V3 f x p := szX_m sz2 e30 e35 (fun j => f3 _ _ (by omega)) (fun j => f3 _ _ (by omega)) (fun j => f3 _ _ (by omega)) (fun j => f3 _ _ (by omega))
  have mc3 : V3 f 12 = sm (hS V f (V (f + 5) k)) (V0 x 1).toNat := by rw [f3 _ _ (by omega)]; exact mc2
  have h3 : fv T f V0 V3 := fv_m h2 th3 f3 (by omega)
  have me3 : meX V0 V3 f x (hS V f (V (f + 5) k)) := by
    have s12 : V3 f 12 = V2 f 12 := f3 _ _ (by omega)
    have s10 : ∀ i, V3 (f + 10) i = V2 (f + 10) i := fun i => f3 _ _ (by omega)
    unfold meX
    simp only [s12, s10]
    exact me2
  have le3 : leX V0 V3 f x p := fun m t m0 m1 t0 t1 => by rw [f3 _ _ (by omega), q99]; exact le m t m0 m1 t0 t1
  have gfd : ∀ (V4 : gV) (j : Int), 0 ≤ j → j < V4 f 0 → req (V0 x 1) (hS V4 f j) (nS V3 f) → hS V4 f (V (f + 5) k) = hS V2 f (V (f + 5) k) → fdn (V0 x 1) (V4 f 0) (pMul V0 x p) (hS V4 f) (V (f + 5) k) (V (f + 8) i) := by
    intro V4 j j0 j1 e eh
    obtain ⟨_, n1, n2, n3⟩ := nh
    rw [k2] at n1 n3
    refine ⟨j, j0, j1, ?_, ?_, ?_⟩
    · rw [eh]; exact sub_t n1 (req_sub (req_s e))
    · rw [e _ (by omega) (by omega)]; exact n2
    · intro W hW w1 w2
      rw [eh] at w1
      exact sub_t (req_sub e) (n3 W hW w1 w2)
  intro i1 i2
  refine cw_vr (fun vr => cwI_u (by omega) (indexFrom_y (V0 := V0) (x := x) u th3 vr (s := 0) (by omega) (fun j j0 j1 => (st3.1.2.1 j j0 j1).2) z3 i1 i2) (fun v V4 hv => ?_))
  obtain ⟨eV, hv⟩ := hv
  subst eV
  have v32 : -1 ≤ v ∧ v < 300 := by
    rcases hv with w | w
    · have := w.1; omega
    · have := w.2.1; omega
  refine ⟨by omega, fun zv => ⟨by omega, ih _ _ ⟨th3, fr3, ⟨st3, sz3, mc3⟩, me3, by omega, fun j j0 j1 => by rw [e3h]; exact hh2 j j0 j1, fun κ q0 q1 => by rw [e355]; exact kh2 κ q0 q1, by omega, up V4 (by omega) (fun j _ _ => e3h j) ?_⟩ (by omega)⟩, fun zv _ => ?_⟩
  · rcases hv with w | w
    · exact absurd w.1 zv
    · exact gfd V4 v w.1 w.2.1 w.2.2 (e3h _)
  have nf : ∀ j, 0 ≤ j → j < V4 f 0 → ¬ req (V0 x 1) (hS V4 f j) (nS V4 f) := by
    rcases hv with w | w
    · exact w.2
    · have := w.1; omega
  rw [e38]
  have em : mrX V4 f k (V (f + 8) i) = mrX V2 f k (V (f + 8) i) := by
    funext m
    show (if m = V4 (f + 6) k then V (f + 8) i else V4 (f + 7) (k * 8 + m)) = if m = V2 (f + 6) k then V (f + 8) i else V2 (f + 7) (k * 8 + m)
    rw [e36, e37]
  refine cwI_u (by omega) (addKind_x c h3 st3 sz3 s17 le3 (k := k) (a := V (f + 8) i) (by omega) (by omega) (by rw [e355, e3h]; exact zs) (by rw [e36, em]; exact cl3) z3 nf) (fun w V5 h5 => ?_)
  obtain ⟨th5, f5, h5⟩ := h5
  have fr5 : Fr (Sgr f) V V5 := Fr_t fr3 (Fr_m f5 (by omega))
  have w01 : w = 0 ∨ w = 1 := by
    rcases h5 with q | q
    · exact Or.inl q.1
    · exact Or.inr q.1
  have fl : w = 0 → tooMany (V0 x 1) (pMul V0 x p) := fun zw => by
    rcases h5 with q | q
    · exact q.2
    · exact absurd q.1 (by omega)
  refine ⟨by omega, fun zw => ?_, fun zw => ⟨0, rfl, th5, fr5, Or.inl ⟨rfl, fl zw⟩⟩⟩
  obtain ⟨⟨st5, sz5⟩, r1, r2, r3, r4, r5⟩ : (stX V0 V5 f x p ∧ szX V0 V5 f x p) ∧ V5 f 5 = V4 f 5 + 1 ∧ V4 f 0 < V5 f 0 ∧ (∀ j, 0 ≤ j → j < V4 f 0 → hS V5 f j = hS V4 f j) ∧ (∀ κ, 0 ≤ κ → κ < V4 f 5 → V5 (f + 5) κ = V4 (f + 5) κ) ∧ hS V5 f (V4 f 0) = nS V4 f := by
    rcases h5 with q | q
    · exact absurd q.1 zw
    · exact q.2
  have m5 : meX V0 V5 f x (hS V f (V (f + 5) k)) := by
    have s12 : V5 f 12 = V4 f 12 := f5 _ _ (by omega)
    have s10 : ∀ i, V5 (f + 10) i = V4 (f + 10) i := fun i => f5 _ _ (by omega)
    unfold meX
    simp only [s12, s10]
    exact me3
  have mc5 : V5 f 12 = sm (hS V f (V (f + 5) k)) (V0 x 1).toNat := by rw [f5 _ _ (by omega)]; exact mc3
  refine ⟨by omega, ih _ _ ⟨th5, fr5, ⟨st5, sz5, mc5⟩, m5, by omega, fun j j0 j1 => by rw [r3 j j0 (by omega), e3h]; exact hh2 j j0 j1, fun κ q0 q1 => by rw [r4 κ q0 (by omega), e355]; exact kh2 κ q0 q1, by omega, up V5 (by omega) (fun j j0 j1 => by rw [r3 j j0 (by omega), e3h]) (gfd V5 (V4 f 0) (by omega) r2 (by rw [r5]; exact fun _ _ _ => rfl) (by rw [r3 _ kk1.1 (by omega), e3h]))⟩ (by omega)⟩
abbrev Sst (f : Nat) : Nat → Int → Prop := fun c i => (c = f ∧ (i = 0 ∨ i = 5)) ∨ (f + 1 ≤ c ∧ c ≤ f + 6)
theorem startNought_x (c : fc G R T f x p n C D V0) (h : fv T f V0 V) : cwv 1 (fun r V' => r = none ∧ (TH T V' ∧ Fr (Sst f) V V' ∧ stX V0 V' f x p ∧ szX V0 V' f x p)) 44 [(4, (f : Int))] G R V := by
  have u := c.1
  have tx := c.2.2.2.2.2
  have N1 := tx.1
  have g := tx.2.2.1
  refine c_X3_startWithTurnNought (t_X3_startWithTurnNought_0 u.ly ⟨rfl, TH_wr (TH_wr (TH_wr (TH_wr (TH_wr (TH_wr (TH_wr (TH_wr h.1 (u.lo _ _)) (u.hi _ _)) ((u.sz _ _).mpr (by omega))) (u.ki _ _)) ((u.cn _).mpr (by omega))) ((u.kh _ _).mpr (by omega))) ((u.km _ _).mpr (by omega))) ((u.kd _).mpr (by omega)), Fr_w (Fr_w (Fr_w (Fr_w (Fr_w (Fr_w (Fr_w (Fr_w Fr_0 (by omega)) (by omega)) (by omega)) (by omega)) (by omega)) (by omega)) (by omega)) (by omega), ?_⟩)
  generalize hV : wr (wr (wr (wr (wr (wr (wr (wr V (f + 1) 0 1) (f + 2) 0 0) (f + 3) 0 1) (f + 4) 0 0) f 0 1) (f + 5) 0 0) (f + 6) 0 0) f 5 1 = V1
  have a0 : V1 f 0 = 1 := by rw [← hV, wr_i (by omega), wr_a (by omega), wr_a (by omega), wr_same]
  have a5 : V1 f 5 = 1 := by rw [← hV, wr_same]
  have b1 : V1 (f + 1) 0 = 1 := by rw [← hV, wr_a (by omega), wr_a (by omega), wr_a (by omega), wr_a (by omega), wr_a (by omega), wr_a (by omega), wr_a (by omega), wr_same]
  have b2 : V1 (f + 2) 0 = 0 := by rw [← hV, wr_a (by omega), wr_a (by omega), wr_a (by omega), wr_a (by omega), wr_a (by omega), wr_a (by omega), wr_same]
  have b3 : V1 (f + 3) 0 = 1 := by rw [← hV, wr_a (by omega), wr_a (by omega), wr_a (by omega), wr_a (by omega), wr_a (by omega), wr_same]
  have b4 : V1 (f + 4) 0 = 0 := by rw [← hV, wr_a (by omega), wr_a (by omega), wr_a (by omega), wr_a (by omega), wr_same]
  have b5 : V1 (f + 5) 0 = 0 := by rw [← hV, wr_a (by omega), wr_a (by omega), wr_same]
  have b6 : V1 (f + 6) 0 = 0 := by rw [← hV, wr_a (by omega), wr_same]
  have eS : ∀ t, 0 ≤ t → t < 128 → hS V1 f 0 t = tr0 t := fun t t0 t1 => by
    show bt (V1 (f + 1) 0) (V1 (f + 2) 0) t = tr0 t
    rw [b1, b2]; exact bt_1 ⟨t0, t1⟩
  have eq : req (V0 x 1) (hS V1 f 0) tr0 := fun t t0 t1 => eS t t0 (by omega)
  have sM : SM (V0 x 1) (pMul V0 x p) (hS V1 f 0) := SM_congr g (req_s eq) (SM_tr g)
  have one : ∀ t, 0 ≤ t → t < V0 x 1 → hS V1 f 0 t = 1 → t = 0 := fun t t0 t1 w => by
    rw [eq t t0 t1] at w
    by_cases q : t = 0
    · exact q
    · unfold tr0 at w; rw [if_neg q] at w; omega
  have s1 : 1 ≤ sm (hS V1 f 0) (V0 x 1).toNat := by
    have l := sm_lt (f := fun _ => 0) (g := hS V1 f 0) (j := 0) (n := (V0 x 1).toNat) (fun i i0 i1 => by rcases bt_01 (V1 (f + 1) 0) (V1 (f + 2) 0) i with w | w <;> · show (0 : Int) ≤ bt (V1 (f + 1) 0) (V1 (f + 2) 0) i; omega) (by omega) (by omega) (by rw [sM.2.1]; omega)
    have l2 := (sm_b (f := fun _ => 0) (n := (V0 x 1).toNat) (fun _ _ _ => ⟨by omega, by omega⟩)).1
    omega
  have k00 : ∀ k : Int, 0 ≤ k → k < V1 f 0 → k = 0 := fun k k0 k1 => by omega
  refine ⟨?_, ?_⟩
  rotate_left
  · refine ⟨fun k k0 k1 => ?_, fun k k0 k1 => by rw [k00 k k0 k1, b4]; omega, fun i j i0 i1 j0 j1 => ?_⟩
    · have e1 : sm (hS V1 f 0) (V0 x 1).toNat = sm (up1 (fun _ => 0) 0 1) (V0 x 1).toNat := sm_congr (fun i i0 i1 => by
        rw [eq i i0 (by omega)]
        unfold tr0 up1
        rfl)
      rw [k00 k k0 k1, b3, e1, (sm_up (f := fun _ => 0) (v := 1) (Int.le_refl 0)).1 (by omega)]
      have l2 := sm_z (V0 x 1).toNat
      omega
    · rw [k00 i i0 i1, k00 j j0 j1]
      exact ⟨fun _ => CJ_refl g sM, fun _ => rfl⟩
  refine ⟨⟨by omega, fun k k0 k1 => ?_, fun i j i0 ij j1 => by omega⟩, by omega, fun κ q0 q1 => ?_, fun k m k0 k1 m0 m1 => ?_, fun k k0 k1 => ?_, eq⟩
  · rw [k00 k k0 k1]
    refine ⟨sM, fun t t0 t1 => ?_⟩
    rw [eS t (by omega) t1]
    unfold tr0
    rw [if_neg (by omega)]
  · have e : κ = 0 := by omega
    rw [e]
    refine ⟨by rw [b5]; omega, ?_⟩
    rw [b5, b6]
    refine ⟨by omega, by omega, fun m m0 m1 => by omega, ⟨sM, fun m m0 m1 => by omega, fun W hW _ t t0 t1 ht => ?_⟩, rfl, ?_⟩
    · rw [one t t0 t1 ht]; exact hW.2.1
    · exact s1
  · rw [k00 k k0 k1]
    have gm := tx.2.2.2.2.1 m m0 m1
    have iv := g.2.2.2.2 _ gm.1 gm.2
    refine ⟨0, by omega, by omega, fun t t0 t1 => ?_⟩
    have cS := cj_SM g sM gm
    have i2 := cj_in g (S := hS V1 f 0) (g := gk V0 x m) (t := t)
    have back : cj (V0 x 1) (pMul V0 x p) (iI V0 x) (hS V1 f 0) (gk V0 x m) t = 1 → t = 0 := fun w => by
      obtain ⟨v, v0, v1, v2, v3⟩ := i2.mp w
      rw [one v v0 v1 v2, (g.2.2.1 _ iv.1 iv.2.1).2, iv.2.2.2] at v3
      exact v3.symm
    by_cases q : t = 0
    · rw [q, sM.2.1, cS.1.2.1]
    · rcases sM.1 t t0 t1 with w | w
      · rcases cS.1.1 t t0 t1 with w2 | w2
        · rw [w, w2]
        · exact absurd (back w2) q
      · exact absurd (one t t0 t1 w) q
  · rw [k00 k k0 k1]
    refine ⟨0, 0, by omega, by omega, by omega, by omega, ?_⟩
    rw [b5]
    exact req_s (cj_0 g sM.1)
theorem find_x (c : fc G R T f x p n C D V0) (h : fv T f V0 V) : cwv 5 (fun r V' => ∃ v : Int, r = some (0, v) ∧ ((0 ≤ v ∧ v ≤ 1) ∧ TH T V' ∧ Fr (Sff f) V0 V' ∧ (v ≠ 0 → 1 ≤ V' f 0) ∧ ((v = 1 ∧ ¬ tooMany (V0 x 1) (pMul V0 x p) ∧ fnX V0 V' f x p) ∨ (v = 0 ∧ tooMany (V0 x 1) (pMul V0 x p))))) 39 [(4, (f : Int)), (4, (x : Int))] G R V := by
  have u := c.1
  have tx := c.2.2.2.2.2
  have N1 := tx.1
  have g := tx.2.2.1
  refine c_X3_find (t_X3_find_0 u.ly c.2.1.ly ?_)
  have h1 : fv T f V0 (wr (wr V f 0 0) f 5 0) := ⟨TH_wr (TH_wr h.1 ((u.cn _).mpr (by omega))) ((u.kd _).mpr (by omega)), Fr_w (Fr_w h.2 (by omega)) (by omega)⟩
  refine cw0_u (by omega) (gatherSeeds_x c h1) (fun V1 q1 => ?_)
  obtain ⟨th1, f1, se1⟩ := q1
  have h2 := fv_m h1 th1 f1 (by omega)
  refine cw0_u (by omega) (fillLed_x c h2) (fun V2 q2 => ?_)
  obtain ⟨th2, f2, le2⟩ := q2
  have h3 := fv_m h2 th2 f2 (by omega)
  refine cw0_u (by omega) (startNought_x c h3) (fun V3 q3 => ?_)
  obtain ⟨th3, f3, st3, sz3⟩ := q3
  have h4 := fv_m h3 th3 f3 (by omega)
  have se3 : seX V0 V3 f x p := by
    have e9 : V3 f 9 = V1 f 9 := by rw [f3 _ _ (by omega)]; exact f2 _ _ (by omega)
    have e8 : ∀ i, V3 (f + 8) i = V1 (f + 8) i := fun i => by rw [f3 _ _ (by omega)]; exact f2 _ _ (by omega)
    unfold seX
    simp only [e9, e8]
    exact se1
  have le3 : leX V0 V3 f x p := fun m t m0 m1 t0 t1 => by rw [f3 _ _ (by omega)]; exact le2 m t m0 m1 t0 t1
  refine loop1 (f := fun k => [some (4, (f : Int)), some (4, (x : Int)), some (0, k)]) (Inv := fun k V4 => fv T f V0 V4 ∧ (stX V0 V4 f x p ∧ szX V0 V4 f x p) ∧ seX V0 V4 f x p ∧ leX V0 V4 f x p ∧ (0 ≤ k ∧ k ≤ V4 f 5) ∧ ∀ κ i, 0 ≤ κ → κ < k → 0 ≤ i → i < V4 f 9 → fdn (V0 x 1) (V4 f 0) (pMul V0 x p) (hS V4 f) (V4 (f + 5) κ) (V4 (f + 8) i)) (μ := fun k _ => (301 - k).toNat) (fun k V4 hi ih => ?_) 0 V3 ⟨h4, ⟨st3, sz3⟩, se3, le3, by have := st3.2.1; omega, fun κ i q0 q1 => by omega⟩
  obtain ⟨h5, ⟨st, sz⟩, se, le, k0, dn⟩ := hi
  have H4 := st.1.1
  have K4 := st.2.1
  refine t_X3_find_26 u.ly c.2.1.ly (fun _ => ⟨by omega, fun z => ⟨1, rfl, by omega, h5.1, h5.2, fun _ => H4.1, Or.inl ⟨rfl, ?_⟩⟩, fun z => ⟨fun z1 => absurd z1 (by omega), fun _ => ?_⟩⟩)
  · have all := fd_all g (by omega) (H := V4 f 0) (S := hS V4 f) (hd := fun hh => ∃ κ, 0 ≤ κ ∧ κ < V4 f 5 ∧ V4 (f + 5) κ = hh) (sd := fun t => ∃ i, 0 ≤ i ∧ i < V4 f 9 ∧ V4 (f + 8) i = t) (fun k k0 k1 => (st.1.2.1 k k0 k1).1) ⟨0, by omega, by omega, st.2.2.2.2.2⟩ (fun k a k0 k1 a0 a1 => cj_all tx (fun k k0 k1 => (st.1.2.1 k k0 k1).1) st.2.2.2.1 a a0 a1 k k0 k1) (fun k k0 k1 => by
      obtain ⟨κ, a, w1, w2, w3, w4, w5⟩ := st.2.2.2.2.1 k k0 k1
      have q := st.2.2.1 κ w1 w2
      exact ⟨V4 (f + 5) κ, a, q.1.1, q.1.2, ⟨κ, w1, w2, rfl⟩, w3, w4, w5⟩) (fun hh t p0 p1 p2 t0 t1 t2 => by
      obtain ⟨κ, w1, w2, w3⟩ := p2
      obtain ⟨i, w4, w5, w6⟩ := t2
      have := dn κ i w1 (by omega) w4 w5
      rw [w3, w6] at this
      exact this) (se_ok tx se)
    exact ⟨notMany g (sz := fun k => sm (hS V4 f k) (V0 x 1).toNat) ⟨H4.1, H4.2, fun k k0 k1 => ⟨(st.1.2.1 k k0 k1).1, rfl⟩, all, dst_eq st.1.2.2⟩, st, sz, all⟩
  refine cwI_u (by omega) (growFrom_x c h5 st sz se le (k := k) (by omega)) (fun v V5 q5 => ?_)
  obtain ⟨th5, f5, q5⟩ := q5
  have h6 := fv_m h5 th5 f5 (by omega)
  have v01 : v = 0 ∨ v = 1 := by
    rcases q5 with q | q
    · exact Or.inl q.1
    · exact Or.inr q.1
  have fl : v = 0 → tooMany (V0 x 1) (pMul V0 x p) := fun zw => by
    rcases q5 with q | q
    · exact q.2
    · exact absurd q.1 (by omega)
  refine ⟨by omega, fun zv => ?_, fun zv => ⟨0, rfl, by omega, th5, h6.2, fun q => absurd rfl q, Or.inr ⟨rfl, fl zv⟩⟩⟩
  obtain ⟨⟨st5, sz5⟩, r1, r3, r4, r4'⟩ : (stX V0 V5 f x p ∧ szX V0 V5 f x p) ∧ (V4 f 5 ≤ V5 f 5 ∧ V4 f 0 ≤ V5 f 0) ∧ (∀ j, 0 ≤ j → j < V4 f 0 → hS V5 f j = hS V4 f j) ∧ (∀ κ, 0 ≤ κ → κ < V4 f 5 → V5 (f + 5) κ = V4 (f + 5) κ) ∧ ∀ i, 0 ≤ i → i < V4 f 9 → fdn (V0 x 1) (V5 f 0) (pMul V0 x p) (hS V5 f) (V4 (f + 5) k) (V4 (f + 8) i) := by
    rcases q5 with q | q
    · exact absurd q.1 zv
    · exact q.2
  have e9 : V5 f 9 = V4 f 9 := f5 _ _ (by omega)
  have e8 : ∀ i, V5 (f + 8) i = V4 (f + 8) i := fun i => f5 _ _ (by omega)
  refine ⟨by omega, ih _ _ ⟨h6, ⟨st5, sz5⟩, ?_, fun m t m0 m1 t0 t1 => by rw [f5 _ _ (by omega)]; exact le m t m0 m1 t0 t1, by omega, fun κ i w1 w2 w3 w4 => ?_⟩ (by omega)⟩
  · unfold seX
    simp only [e9, e8]
    exact se
  · rw [r4 κ w1 (by omega), e8]
    by_cases y : κ = k
    · rw [y]; exact r4' i w3 (by omega)
    · have q := st.2.2.1 κ w1 (by omega)
      have sd := se.2.1 i w3 (by omega)
      exact fdn_congr (fun k' k0' k1' t _ _ => by rw [r3 k' k0' k1']) q.1 (by omega) r1.2 (dn κ i w1 (by omega) w3 (by omega))
end
