/-! the turns that the makers make are a group -/
def In1 (cs : Int → Int) (N c : Int) : Prop := ∃ j, 0 ≤ j ∧ j < N ∧ cs j = c
def wS (cs mc : Int → Int) (mk N : Int) : Prop := (1 ≤ N ∧ N ≤ 120) ∧ (∀ c, In1 cs N c → cO c) ∧ In1 cs N 342391 ∧ (∀ c m, In1 cs N c → 0 ≤ m → m < mk → In1 cs N (cmp c (mc m))) ∧ (∀ P : Int → Prop, P 342391 → (∀ c m, 0 ≤ m → m < mk → In1 cs N c → P c → P (cmp c (mc m))) → ∀ c, In1 cs N c → P c)
section
variable {cs f g mc : Int → Int} {mk N n : Int}
theorem wS_cl (cl : clc cs mc mk n) (dn : cld cs mc mk n n 0) : wS cs mc mk n := by
  refine ⟨cl.1, ?_, ⟨0, by omega, by have := cl.1; omega, cl.2.2.1⟩, ?_, ?_⟩
  · rintro c ⟨j, j0, j1, e⟩
    rw [← e]; exact cl.2.1 j j0 j1
  · rintro c m ⟨j, j0, j1, e⟩ m0 m1
    obtain ⟨j', a, b, e'⟩ := dn j m j0 m0 m1 (Or.inl j1)
    exact ⟨j', a, b, by rw [e', e]⟩
  · rintro P p0 ps c ⟨j, j0, j1, e⟩
    rw [← e]
    have key : ∀ (w : Nat) (j : Int), 0 ≤ j → j < n → j.toNat = w → P (cs j) := by
      intro w
      induction w using Nat.strongRecOn with
      | ind w ih =>
        intro j j0 j1 jw
        by_cases z : j = 0
        · rw [z, cl.2.2.1]; exact p0
        · obtain ⟨k, m, k0, k1, m0, m1, e⟩ := cl.2.2.2.2 j (by omega) j1
          rw [e]
          exact ps _ m m0 m1 ⟨k, k0, by omega, rfl⟩ (ih k.toNat (by omega) k k0 (by omega) rfl)
    exact key _ j j0 j1 rfl
theorem sr_in (s : srP f g N) (c : Int) : In1 g N c ↔ In1 f N c := by
  constructor
  · rintro ⟨j, j0, j1, e⟩
    obtain ⟨i, i0, i1, e2⟩ := s.2.2.1 j j0 j1
    exact ⟨i, i0, i1, by rw [← e2, e]⟩
  · rintro ⟨j, j0, j1, e⟩
    obtain ⟨i, i0, i1, e2⟩ := s.2.2.2 j j0 j1
    exact ⟨i, i0, i1, by rw [e2, e]⟩
theorem wS_sr (h : wS f mc mk N) (s : srP f g N) : wS g mc mk N := by
  unfold wS at h ⊢
  simp only [sr_in s]
  exact h
def pm (c : Int) : Prop := ∀ p q, 0 ≤ p → p ≤ 7 → 0 ≤ q → q ≤ 7 → dg c p = dg c q → p = q
theorem pm_id : pm 342391 := fun p q p0 p1 q0 q1 e => by rw [dg_id ⟨p0, p1⟩, dg_id ⟨q0, q1⟩] at e; exact e
theorem pm_cmp {c e : Int} (hc : pm c) (he : pm e) : pm (cmp c e) := fun p q p0 p1 q0 q1 z => by
  rw [dg_cmp ⟨p0, p1⟩, dg_cmp ⟨q0, q1⟩] at z
  have a := dg_r c p
  have b := dg_r c q
  exact hc p q p0 p1 q0 q1 (he _ _ a.1 a.2 b.1 b.2 z)
theorem wS_pm (h : wS cs mc mk N) (hm : ∀ m, 0 ≤ m → m < mk → pm (mc m)) : ∀ c, In1 cs N c → pm c := h.2.2.2.2 pm pm_id (fun c m m0 m1 _ pc => pm_cmp pc (hm m m0 m1))
theorem wS_mul (h : wS cs mc mk N) {a : Int} (ha : In1 cs N a) : ∀ b, In1 cs N b → In1 cs N (cmp a b) := h.2.2.2.2 (fun b => In1 cs N (cmp a b)) (by rw [cmp_rr (h.2.1 a ha)]; exact ha) (fun c m m0 m1 _ pc => by rw [← cmp_as]; exact h.2.2.2.1 _ m pc m0 m1)
def fR (cs : Int → Int) : Int → Int := fun i => dg (cs (i / 8)) (i % 8)
theorem fR_e {k p : Int} (hp : 0 ≤ p ∧ p ≤ 7) : fR cs (8 * k + p) = dg (cs k) p := by
  unfold fR
  rw [show (8 * k + p) / 8 = k by omega, show (8 * k + p) % 8 = p by omega]
theorem ris_inj (hr : ris cs N) {i j : Int} (i0 : 0 ≤ i ∧ i < N) (j0 : 0 ≤ j ∧ j < N) (e : cs i = cs j) : i = j := by
  rcases Int.lt_trichotomy i j with q | q | q
  · have := hr i j i0.1 q j0.2; omega
  · exact q
  · have := hr j i j0.1 q i0.2; omega
theorem fR_GR (h : wS cs mc mk N) (hm : ∀ m, 0 ≤ m → m < mk → pm (mc m)) (hr : ris cs N) : GR (fR cs) 8 N ∧ srt (fR cs) 8 N ∧ cs 0 = 342391 := by
  have hO : ∀ j, 0 ≤ j → j < N → cO (cs j) := fun j j0 j1 => h.2.1 _ ⟨j, j0, j1, rfl⟩
  have hp : ∀ j, 0 ≤ j → j < N → pm (cs j) := fun j j0 j1 => wS_pm h hm _ ⟨j, j0, j1, rfl⟩
  have rows : ∀ i j, 0 ≤ i → i < N → 0 ≤ j → j < N → (∀ p, 0 ≤ p → p < 8 → fR cs (8 * i + p) = fR cs (8 * j + p)) → i = j := by
    intro i j i0 i1 j0 j1 e
    refine ris_inj hr ⟨i0, i1⟩ ⟨j0, j1⟩ (dg_inj (hO i i0 i1) (hO j j0 j1) (fun p p0 p1 => ?_))
    have := e p p0 (by omega)
    rw [fR_e ⟨p0, p1⟩, fR_e ⟨p0, p1⟩] at this
    exact this
  have gr : GR (fR cs) 8 N := by
    refine ⟨by omega, by omega, h.1.1, h.1.2, fun k p k0 k1 p0 p1 => ?_, fun k p q k0 k1 p0 p1 q0 q1 e => ?_, rows, ?_, fun s t s0 s1 t0 t1 => ?_⟩
    · rw [fR_e ⟨p0, by omega⟩]
      have := dg_r (cs k) p
      omega
    · rw [fR_e ⟨p0, by omega⟩, fR_e ⟨q0, by omega⟩] at e
      exact hp k k0 k1 p q p0 (by omega) q0 (by omega) e
    · obtain ⟨e, e0, e1, e2⟩ := h.2.2.1
      exact ⟨e, e0, e1, fun p p0 p1 => by rw [fR_e ⟨p0, by omega⟩, e2, dg_id ⟨p0, by omega⟩]⟩
    · obtain ⟨k, k0, k1, k2⟩ := wS_mul h (a := cs s) ⟨s, s0, s1, rfl⟩ (cs t) ⟨t, t0, t1, rfl⟩
      exact ⟨k, k0, k1, fun p p0 p1 => by rw [fR_e ⟨p0, by omega⟩, fR_e ⟨p0, by omega⟩, fR_e (dg_r _ _), k2, dg_cmp ⟨p0, by omega⟩]⟩
  have sr : srt (fR cs) 8 N := by
    intro i j i0 ij j1
    have nr : ¬ ∀ p, 0 ≤ p → p < 8 → fR cs (8 * i + p) = fR cs (8 * j + p) := fun e => by have := rows i j i0 (by omega) (by omega) j1 e; omega
    rcases lx_tri nr with w | w
    · exact w
    · exfalso
      obtain ⟨p, p0, p1, p2, p3⟩ := w
      rw [fR_e ⟨p0, by omega⟩, fR_e ⟨p0, by omega⟩] at p2
      have l := cd_lt (r := dg (cs j)) (s := dg (cs i)) (fun q _ _ => dg_r _ _) (fun q _ _ => dg_r _ _) (p := p) ⟨p0, by omega⟩ (fun q q0 q1 => by have := p3 q q0 q1; rw [fR_e ⟨q0, by omega⟩, fR_e ⟨q0, by omega⟩] at this; exact this) p2
      rw [cd_dg (hO j (by omega) j1), cd_dg (hO i i0 (by omega))] at l
      have := hr i j i0 ij j1
      omega
  refine ⟨gr, sr, ?_⟩
  have i0 := id_0 gr sr
  refine dg_inj (hO 0 (by omega) (by have := h.1; omega)) ⟨by omega, by omega⟩ (fun p p0 p1 => ?_)
  have := i0 p p0 (by omega)
  rw [show p = 8 * 0 + p by omega, fR_e ⟨p0, p1⟩] at this
  rw [dg_id ⟨p0, p1⟩]
  omega
def isM (cs : Int → Int) (N : Int) (mul : Int → Int → Int) : Prop := ∀ s t, 0 ≤ s → s < N → 0 ≤ t → t < N → 0 ≤ mul s t ∧ mul s t < N ∧ cs (mul s t) = cmp (cs s) (cs t)
theorem isM_pr {mul : Int → Int → Int} (hm : isM cs N mul) : isPr (fR cs) 8 N mul := fun s t s0 s1 t0 t1 => by
  have m := hm s t s0 s1 t0 t1
  exact ⟨m.1, m.2.1, fun p p0 p1 => by rw [fR_e ⟨p0, by omega⟩, fR_e ⟨p0, by omega⟩, fR_e (dg_r _ _), m.2.2, dg_cmp ⟨p0, by omega⟩]⟩
theorem isM_GT {mul : Int → Int → Int} (gr : GR (fR cs) 8 N) (sr : srt (fR cs) 8 N) (hm : isM cs N mul) : ∃ inv, GT N mul inv := by
  have pr := isM_pr hm
  have N1 := gr.2.2.1
  have ex : ∀ s, 0 ≤ s → s < N → ∃ t, 0 ≤ t ∧ t < N ∧ mul s t = 0 := fun s s0 s1 => pig (φ := fun t => mul s t) (n := N) (by omega) (fun i i0 i1 => ⟨(pr s i s0 s1 i0 i1).1, (pr s i s0 s1 i0 i1).2.1⟩) (fun i j i0 i1 j0 j1 w => pr_inj gr pr ⟨s0, s1⟩ ⟨i0, i1⟩ ⟨j0, j1⟩ w) (y := 0) (by omega) (by omega)
  obtain ⟨inv, hi⟩ : ∃ inv : Int → Int, ∀ s, 0 ≤ s → s < N → 0 ≤ inv s ∧ inv s < N ∧ mul s (inv s) = 0 := by
    refine ⟨fun s => @dite _ (0 ≤ s ∧ s < N) (Classical.propDecidable _) (fun h => Classical.choose (ex s h.1 h.2)) (fun _ => 0), fun s s0 s1 => ?_⟩
    (try dsimp only)
    rw [dif_pos ⟨s0, s1⟩]
    exact Classical.choose_spec (ex s s0 s1)
  exact ⟨inv, pr_GT gr sr pr hi⟩
end
abbrev Sfp (x p : Nat) : Nat → Int → Prop := fun c _ => c = x + 6 ∨ c = x + 7 ∨ c = p
def fpI (V1 V2 : gV) (x p : Nat) (N k : Int) : Prop := (1 ≤ k ∧ k ≤ N) ∧ (∀ j, 0 ≤ j → j < k → 0 ≤ V2 (x + 6) j ∧ V2 (x + 6) j < N) ∧ V2 (x + 6) 0 = 0 ∧ (∀ i j, 0 ≤ i → i < j → j < k → V2 (x + 6) i ≠ V2 (x + 6) j) ∧ (∀ u, 0 ≤ u → u < N → (V2 (x + 7) u = 0 ↔ ∀ j, 0 ≤ j → j < k → V2 (x + 6) j ≠ u)) ∧ (∀ j s, 0 ≤ j → j < k → 0 ≤ s → s < N → 0 ≤ V2 p (s * N + V2 (x + 6) j) ∧ V2 p (s * N + V2 (x + 6) j) < N ∧ V1 (x + 1) (V2 p (s * N + V2 (x + 6) j)) = cmp (V1 (x + 1) s) (V1 (x + 1) (V2 (x + 6) j)))
def fpD (V1 V2 : gV) (x : Nat) (k i m : Int) : Prop := ∀ i' m', 0 ≤ i' → 0 ≤ m' → m' < V1 x 2 → (i' < i ∨ (i' = i ∧ m' < m)) → ∃ j, 0 ≤ j ∧ j < k ∧ V2 (x + 6) j = V1 (x + 4) (m' * 120 + V2 (x + 6) i')
/-- all are met -/
theorem fp_all {V1 V2 : gV} {x p : Nat} {N k : Int} (ws : wS (fun j => V1 (x + 1) j) (fun m => V1 (x + 5) m) (V1 x 2) N) (hr : ris (fun j => V1 (x + 1) j) N) (hN : V1 x 1 = N) (st : stP2 V1 x) (id0 : V1 (x + 1) 0 = 342391) (h : fpI V1 V2 x p N k) (d : fpD V1 V2 x k k 0) : isM (fun j => V1 (x + 1) j) N (fun s t => V2 p (s * N + t)) := by
  obtain ⟨h1, h2, h3, h4, h5, h6⟩ := h
  have all : ∀ c, In1 (fun j => V1 (x + 1) j) N c → ∀ u, 0 ≤ u → u < N → V1 (x + 1) u = c → ∃ j, 0 ≤ j ∧ j < k ∧ V2 (x + 6) j = u := by
    refine ws.2.2.2.2 _ (fun u u0 u1 e => ?_) (fun c m m0 m1 hc ih u u0 u1 e => ?_)
    · have : u = 0 := ris_inj hr ⟨u0, u1⟩ ⟨by omega, by omega⟩ (by (try dsimp only); rw [e, id0])
      exact ⟨0, by omega, by omega, by rw [this]; exact h3⟩
    · obtain ⟨y, y0, y1, y2⟩ := hc
      (try dsimp only at y2)
      obtain ⟨j, j0, j1, j2⟩ := ih y y0 y1 y2
      obtain ⟨j', k0, k1, k2⟩ := d j m j0 m0 m1 (Or.inl j1)
      rw [j2] at k2
      have s := st m y m0 m1 y0 (by omega)
      refine ⟨j', k0, k1, ?_⟩
      rw [k2]
      refine ris_inj hr ⟨s.1, by omega⟩ ⟨u0, u1⟩ ?_
      (try dsimp only)
      rw [s.2.2, e, y2]
  intro s t s0 s1 t0 t1
  obtain ⟨j, j0, j1, j2⟩ := all _ ⟨t, t0, t1, rfl⟩ t t0 t1 rfl
  have := h6 j s j0 j1 s0 s1
  rw [j2] at this
  exact this
section
variable {G : List gS} {R V : gV} {T : gT} {x p n : Nat} {C D : Int}
theorem fillProducts_x (t : tAB G R T x C D) (hD : D ≤ C) {N : Int} (hN : ∀ v, T x 1 v → v = N) (th : TH T V) (rp : R x 10 = (p : Int)) (gp : G[p]? = some (gA 0 n)) (hp : p < x ∨ x + 7 < p) (tp : ∀ i v, T p i v ↔ 0 ≤ v ∧ v < C) (c1 : N * N ≤ n → C * C ≤ n) (c2 : (n : Int) < N * N → C = N) (ws : wS (fun j => V (x + 1) j) (fun m => V (x + 5) m) (V x 2) (V x 1)) (hr : ris (fun j => V (x + 1) j) (V x 1)) (st : stP2 V x) (id0 : V (x + 1) 0 = 342391) : cw 2 (fun r G' R' V' => r = none ∧ ∃ p' n' : Nat, R' = wr R x 10 (p' : Int) ∧ TH (upT T p' (fun v => 0 ≤ v ∧ v < C)) V' ∧ tTB G' R' (upT T p' (fun v => 0 ≤ v ∧ v < C)) x p' n' C D ∧ ((G' = G ∧ p' = p ∧ n' = n) ∨ (G' = G ++ [gA 0 n'] ∧ p' = G.length ∧ 2 * n ≤ n' ∧ n' ≤ 28800)) ∧ (p' < x ∨ x + 7 < p') ∧ Fr (Sfp x p') V V' ∧ isM (fun j => V (x + 1) j) (V x 1) (fun s t => V' p' (s * V x 1 + t))) 99 [(4, (x : Int))] G R V := by
  refine cw_fr (fun _ fr => ?_)
  have ct := t.ct _ (th x 1)
  have hN1 := hN _ (th x 1)
  have d0 := t.d0
  have c0 := t.c0
  have sq : 0 ≤ N * N ∧ N * N ≤ 120 * 120 := ⟨Int.mul_nonneg (by omega) (by omega), Int.mul_le_mul (by omega) (by omega) (by omega) (by omega)⟩
  refine c_X6_fillProducts (t_X6_fillProducts_0 ⟨ly6_o t.ly, p, rp, fun _ => ?_⟩)
  rw [hN1] at ws hr ⊢
  refine ⟨by omega, ?_⟩
  refine cw_mono (by omega) (roomFor_k gp (by omega)) (fun r G1 R1 V1 h => ?_)
  obtain ⟨p', e1, eR, eV, h⟩ := h
  subst eR eV
  have lx := (List.getElem?_eq_some_iff.mp (ly6_o t.ly)).1
  have l7 := (List.getElem?_eq_some_iff.mp (ly6_9 t.ly).2).1
  have hG : gX2 G G1 := by
    rcases h with h | ⟨l', h, _⟩
    · rw [h.1]; exact gX2_refl
    · rw [h]; exact gX2_app
  have hp' : p' < x ∨ x + 7 < p' := by
    rcases h with h | ⟨l', h⟩
    · omega
    · omega
  obtain ⟨n', gp', cn', dj⟩ : ∃ n' : Nat, G1[p']? = some (gA 0 n') ∧ C * C ≤ n' ∧ ((G1 = G ∧ p' = p ∧ n' = n) ∨ (G1 = G ++ [gA 0 n'] ∧ p' = G.length ∧ 2 * n ≤ n' ∧ n' ≤ 28800)) := by
    rcases h with h | ⟨l', h⟩
    · exact ⟨n, by rw [h.1, h.2.1]; exact gp, c1 h.2.2, Or.inl ⟨h.1, h.2.1, rfl⟩⟩
    · refine ⟨l', ?_, ?_, Or.inr ⟨h.1, h.2.1, by omega, by omega⟩⟩
      · rw [h.1, h.2.1, List.getElem?_append_right (Nat.le_refl _), Nat.sub_self]; rfl
      · rw [c2 h.2.2.1]; omega
  have th' : TH (upT T p' (fun v => 0 ≤ v ∧ v < C)) V1 := by
    refine TH_upT th (fun i => ?_)
    rcases h with h | ⟨l', h⟩
    · rw [h.2.1]; exact (tp _ _).mp (th p i)
    · rw [h.2.1, (fr _ i (Nat.le_refl _)).1]; omega
  have tc : ∀ j, x ≤ j → j ≤ x + 7 → upT T p' (fun v => 0 ≤ v ∧ v < C) j = T j := fun j h1 h2 => upT_n (by omega)
  have r8 : (wr R1 x 10 (p' : Int)) x 3 = R1 x 3 ∧ (wr R1 x 10 (p' : Int)) x 4 = R1 x 4 ∧ (wr R1 x 10 (p' : Int)) x 5 = R1 x 5 ∧ (wr R1 x 10 (p' : Int)) x 6 = R1 x 6 ∧ (wr R1 x 10 (p' : Int)) x 7 = R1 x 7 ∧ (wr R1 x 10 (p' : Int)) x 8 = R1 x 8 ∧ (wr R1 x 10 (p' : Int)) x 9 = R1 x 9 := ⟨wr_i (by omega), wr_i (by omega), wr_i (by omega), wr_i (by omega), wr_i (by omega), wr_i (by omega), wr_i (by omega)⟩
  have t' : tTB G1 (wr R1 x 10 (p' : Int)) (upT T p' (fun v => 0 ≤ v ∧ v < C)) x p' n' C D := by
    refine tTB.mk (tAB.mk (lay6_m t.ly hG r8) t.c0 t.d0 ?_ ?_ ?_ ?_ ?_ ?_ ?_ ?_ ?_ ?_) (wr_same _ _ _ _) gp' cn' (fun i v => upT_s)
    · rw [tc x (by omega) (by omega)]; exact t.pl
    · rw [tc x (by omega) (by omega)]; exact t.ct
    · rw [tc x (by omega) (by omega)]; exact t.mm
    · rw [tc (x + 1) (by omega) (by omega)]; exact t.co
    · rw [tc (x + 2) (by omega) (by omega)]; exact t.iv
    · rw [tc (x + 3) (by omega) (by omega)]; exact t.od
    · rw [tc (x + 4) (by omega) (by omega)]; exact t.st
    · rw [tc (x + 5) (by omega) (by omega)]; exact t.mc
    · rw [tc (x + 6) (by omega) (by omega)]; exact t.re
    · rw [tc (x + 7) (by omega) (by omega)]; exact t.ir
  refine ⟨p', e1, hG _ _ (ly6_o t.ly), ?_⟩
  refine wp_mono (Q := fun r G' R' V' => G' = G1 ∧ R' = wr R1 x 10 (p' : Int) ∧ (r = none ∧ TH (upT T p' (fun v => 0 ≤ v ∧ v < C)) V' ∧ Fr (Sfp x p') V1 V' ∧ isM (fun j => V1 (x + 1) j) N (fun s t => V' p' (s * N + t)))) (fun r G2 R2 V2 h2 => ⟨h2.2.2.1, p', n', h2.2.1, h2.2.2.2.1, by rw [h2.1, h2.2.1]; exact t', by rw [h2.1]; exact dj, hp', h2.2.2.2.2.1, h2.2.2.2.2.2⟩) ?_
  clear th fr
  have ct' := t'.ct _ (th' x 1)
  generalize upT T p' (fun v => 0 ≤ v ∧ v < C) = T' at *
  have l := t'.ly
  have N0 : 0 < N ∧ N ≤ 120 := by omega
  have fe : ∀ V2, Fr (Sfp x p') V1 V2 → V2 x 1 = N ∧ V2 x 2 = V1 x 2 ∧ ∀ i, V2 (x + 4) i = V1 (x + 4) i := fun V2 f => ⟨by rw [f x 1 (by omega)]; exact hN1, f _ _ (by omega), fun i => f _ _ (by omega)⟩
  refine loop1 (f := fun a => [some (4, (x : Int)), some (0, a)]) (Inv := fun a V2 => TH T' V2 ∧ Fr (Sfp x p') V1 V2 ∧ (0 ≤ a ∧ a ≤ N) ∧ (∀ u, 0 ≤ u → u < a → V2 (x + 7) u = if u = 0 then 1 else 0) ∧ (∀ u, 0 ≤ u → u < a → V2 p' (u * N) = u)) (μ := fun a _ => (120 - a).toNat) (fun a V2 h ih => ?_) 0 _ ⟨th', Fr_0, by omega, fun u u0 u1 => by omega, fun u u0 u1 => by omega⟩
  obtain ⟨th2, f2, a0, h7, hq⟩ := h
  obtain ⟨v1, v2, v4⟩ := fe V2 f2
  have q := idxp (n := n') (a := a) (C := C) (N := N) (b := 0)
  have nx : ∀ w : Int, (w = if a = 0 then 1 else 0) → a < N → TH T' (wr (wr V2 (x + 7) a w) p' (a * N) a) ∧ Fr (Sfp x p') V1 (wr (wr V2 (x + 7) a w) p' (a * N) a) ∧ (0 ≤ a + 1 ∧ a + 1 ≤ N) ∧ (∀ u, 0 ≤ u → u < a + 1 → wr (wr V2 (x + 7) a w) p' (a * N) a (x + 7) u = if u = 0 then 1 else 0) ∧ (∀ u, 0 ≤ u → u < a + 1 → wr (wr V2 (x + 7) a w) p' (a * N) a p' (u * N) = u) := by
    intro w hw aN
    refine ⟨TH_wr (TH_wr th2 (t'.ir _ _)) ((t'.pr _ _).mpr (by omega)), Fr_w (Fr_w f2 (by omega)) (by omega), by omega, fun u u0 u1 => ?_, fun u u0 u1 => ?_⟩
    · rw [wr_a (by omega)]
      by_cases y : u = a
      · rw [y, wr_same]; exact hw
      · rw [wr_i y]; exact h7 u u0 (by omega)
    · by_cases y : u = a
      · rw [y, wr_same]
      · rw [wr_i (fun e => y (idx_inj (s := u) (s' := a) (t := 0) (t' := 0) (N := N) (by omega) (by omega) (by omega)).1), wr_a (by omega)]
        exact hq u u0 (by omega)
  refine t_X6_fillProducts_22 ⟨ly6_o l, fun _ => ⟨by omega, fun z => ⟨x + 6, (ly6_8 l).1, 120, (ly6_8 l).2, by omega, ?_⟩, fun z => ⟨x + 7, (ly6_9 l).1, fun z1 => ⟨120, (ly6_9 l).2, by omega, p', t'.rp, fun _ => ?_⟩, fun z1 => ⟨120, (ly6_9 l).2, by omega, p', t'.rp, fun _ => ?_⟩⟩⟩⟩
  · have aN : a = N := by omega
    rw [aN] at h7 hq
    clear ih nx q
    have I0 : fpI V1 (wr V2 (x + 6) 0 0) x p' N 1 := by
      refine ⟨by omega, fun j j0 j1 => ?_, wr_same _ _ _ _, fun i j i0 ij j1 => by omega, fun u u0 u1 => ?_, fun j s j0 j1 s0 s1 => ?_⟩
      · rw [show j = 0 by omega, wr_same]; omega
      · rw [wr_a (by omega), h7 u u0 u1]
        by_cases y : u = 0
        · rw [if_pos y]
          exact ⟨fun z => absurd z (by omega), fun z => by have w := z 0 (by omega) (by omega); rw [y, wr_same] at w; exact absurd rfl w⟩
        · rw [if_neg y]
          exact ⟨fun _ j j0 j1 e => by rw [show j = 0 by omega, wr_same] at e; omega, fun _ => rfl⟩
      · rw [show j = 0 by omega, wr_same, wr_a (by omega), show s * N + 0 = s * N by omega, hq s s0 s1, id0, cmp_rr]
        · exact ⟨s0, s1, rfl⟩
        · exact ws.2.1 _ ⟨s, s0, s1, rfl⟩
    refine loop2 (f := fun k i => [some (4, (x : Int)), some (0, k), some (0, i)]) (Inv := fun k i V3 => TH T' V3 ∧ Fr (Sfp x p') V1 V3 ∧ fpI V1 V3 x p' N k ∧ (0 ≤ i ∧ i ≤ k) ∧ fpD V1 V3 x k i 0) (μ := fun _ i _ => (120 - i).toNat) (fun k i V3 h ih2 => ?_) 1 0 (wr V2 (x + 6) 0 0) ⟨TH_wr th2 ((t'.re _ _).mpr (by omega)), Fr_w f2 (by omega), I0, by omega, fun i' m' w0 w1 w2 w3 => by omega⟩
    obtain ⟨th3, f3, I3, i0, d3⟩ := h
    have k1 := I3.1
    refine t_X6_fillProducts_74 ⟨by omega, by omega, fun z => ⟨rfl, rfl, rfl, th3, f3, fp_all ws hr hN1 st id0 I3 ?_⟩, fun z => ⟨fun z1 => absurd z1 (by omega), fun _ => ?_⟩⟩
    · have e : i = k := by omega
      rw [e] at d3; exact d3
    refine loop2 (f := fun k j => [some (4, (x : Int)), some (0, k), some (0, i), some (0, j)]) (Inv := fun k j V4 => TH T' V4 ∧ Fr (Sfp x p') V1 V4 ∧ fpI V1 V4 x p' N k ∧ i < k ∧ (0 ≤ j ∧ j ≤ 4) ∧ fpD V1 V4 x k i j) (μ := fun _ j _ => (4 - j).toNat) (fun k j V4 h4 ih3 => ?_) k 0 V3 ⟨th3, f3, I3, z, by omega, d3⟩
    clear th3 f3 I3 d3 k1 z
    obtain ⟨th4, f4, I4, ik, j0, d4⟩ := h4
    obtain ⟨w1, w2, w4⟩ := fe V4 f4
    have mm := (t'.mm _).mp (th4 x 2)
    obtain ⟨I41, I42, I43, I44, I45, I46⟩ := id I4
    have rr := I42 i i0.1 ik
    refine t_X6_fillProducts_87 ⟨ly6_o l, fun _ => ⟨by omega, fun z => ⟨by omega, ih2 _ _ _ ⟨th4, f4, I4, by omega, fun i' m' y0 y1 y2 y3 => d4 i' m' y0 y1 y2 (by omega)⟩ (by omega)⟩, fun z => ⟨x + 4, (ly6_6 l).1, by omega, x + 6, (ly6_8 l).1, 120, (ly6_8 l).2, by omega, fun _ => ⟨by omega, 480, (ly6_6 l).2, by omega, ?_⟩⟩⟩⟩
    rw [w4]
    have ss := st j (V4 (x + 6) i) j0.1 (by omega) rr.1 (by omega)
    rw [hN1] at ss
    generalize hnx : V1 (x + 4) (j * 120 + V4 (x + 6) i) = nxt at ss ⊢
    have dn : ∀ V5 k', (∀ m, 0 ≤ m → m < k → V5 (x + 6) m = V4 (x + 6) m) → k ≤ k' → (∃ m, 0 ≤ m ∧ m < k' ∧ V5 (x + 6) m = nxt) → fpD V1 V5 x k' i (j + 1) := by
      intro V5 k' e5 kk ⟨m5, y0, y1, y2⟩ i' m' u0 u1 u2 u3
      by_cases y : i' = i ∧ m' = j
      · exact ⟨m5, y0, y1, by rw [y.1, y.2, e5 i i0.1 ik, hnx]; exact y2⟩
      · obtain ⟨q, q0, q1, q2⟩ := d4 i' m' u0 u1 u2 (by omega)
        exact ⟨q, q0, by omega, by rw [e5 q q0 q1, e5 i' u0 (by omega)]; exact q2⟩
    refine fun _ => ⟨x + 7, (ly6_9 l).1, 120, (ly6_9 l).2, by omega, fun _ => ⟨fun z1 => ⟨by omega, ih3 _ _ _ ⟨th4, f4, I4, ik, by omega, dn V4 k (fun _ _ _ => rfl) (Int.le_refl _) ?_⟩ (by omega)⟩, fun z1 => ⟨by omega, fun z2 => ?_, fun z2 => ⟨by omega, by omega, fun _ => ?_⟩⟩⟩⟩
    · apply Classical.byContradiction
      intro y
      exact z1 ((I45 nxt ss.1 ss.2.1).mpr (fun m m0 m1 e => y ⟨m, m0, m1, e⟩))
    · exfalso
      have nw := (I45 nxt ss.1 ss.2.1).mp z1
      have := inj_le (φ := fun m => if m < k then V4 (x + 6) m else nxt) (n := k + 1) (N := N) (by omega) (fun m m0 m1 => by
        (try dsimp only)
        split
        · rename_i y; exact I42 m m0 y
        · exact ⟨ss.1, ss.2.1⟩) (fun u v u0 uv v1 => by
        (try dsimp only)
        rw [if_pos (by omega)]
        split
        · rename_i y; exact I44 u v u0 uv y
        · exact nw u u0 (by omega))
      omega
    · have nw := (I45 nxt ss.1 ss.2.1).mp z1
      have e6 : ∀ m, m ≠ k → wr (wr V4 (x + 7) nxt 1) (x + 6) k nxt (x + 6) m = V4 (x + 6) m := fun m hm => by rw [wr_i hm, wr_a (by omega)]
      have e66 : wr (wr V4 (x + 7) nxt 1) (x + 6) k nxt (x + 6) k = nxt := wr_same _ _ _ _
      have th5 : TH T' (wr (wr V4 (x + 7) nxt 1) (x + 6) k nxt) := TH_wr (TH_wr th4 (t'.ir _ _)) ((t'.re _ _).mpr (by omega))
      have f5 : Fr (Sfp x p') V1 (wr (wr V4 (x + 7) nxt 1) (x + 6) k nxt) := Fr_w (Fr_w f4 (by omega)) (by omega)
      have e7 : ∀ u, u ≠ nxt → wr (wr V4 (x + 7) nxt 1) (x + 6) k nxt (x + 7) u = V4 (x + 7) u := fun u hu => by rw [wr_a (by omega), wr_i hu]
      have e77 : wr (wr V4 (x + 7) nxt 1) (x + 6) k nxt (x + 7) nxt = 1 := by rw [wr_a (by omega), wr_same]
      have ep : ∀ u, wr (wr V4 (x + 7) nxt 1) (x + 6) k nxt p' u = V4 p' u := fun u => by rw [wr_a (by omega), wr_a (by omega)]
      rw [e6 i (by omega)]
      generalize wr (wr V4 (x + 7) nxt 1) (x + 6) k nxt = V5 at *
      obtain ⟨g1, g2, g4⟩ := fe V5 f5
      refine cw0_u (by omega) (fillProductsBy_x t' hD hp' th5 (a := nxt) (b := V4 (x + 6) i) (m := j) (by omega) (by omega) (fun e => nw i i0.1 ik e.symm) (by omega)) (fun V6 h6 => ?_)
      obtain ⟨th6, f6, n1, n2⟩ := h6
      rw [g1] at n1 n2
      have s6 : ∀ m, V6 (x + 6) m = V5 (x + 6) m := fun m => f6 _ _ (by omega)
      have s7 : ∀ m, V6 (x + 7) m = V5 (x + 7) m := fun m => f6 _ _ (by omega)
      refine ⟨by omega, ih3 _ _ _ ⟨th6, Fr_t f5 (Fr_m f6 (by omega)), ?_, by omega, by omega, dn V6 (k + 1) (fun m m0 m1 => by rw [s6, e6 m (by omega)]) (by omega) ⟨k, by omega, by omega, by rw [s6, e66]⟩⟩ (by omega)⟩
      have kN : k < N := by
        have := inj_le (φ := fun m => if m < k then V4 (x + 6) m else nxt) (n := k + 1) (N := N) (by omega) (fun m m0 m1 => by
          (try dsimp only)
          split
          · rename_i y; exact I42 m m0 y
          · exact ⟨ss.1, ss.2.1⟩) (fun u v u0 uv v1 => by
          (try dsimp only)
          rw [if_pos (by omega)]
          split
          · rename_i y; exact I44 u v u0 uv y
          · exact nw u u0 (by omega))
        omega
      refine ⟨by omega, fun m m0 m1 => ?_, ?_, fun u v u0 uv v1 => ?_, fun u u0 u1 => ?_, fun m s m0 m1 s0 s1 => ?_⟩
      · rw [s6]
        by_cases y : m = k
        · rw [y, e66]; exact ⟨ss.1, ss.2.1⟩
        · rw [e6 m y]; exact I42 m m0 (by omega)
      · rw [s6, e6 0 (by omega)]; exact I43
      · rw [s6, s6, e6 u (by omega)]
        by_cases y : v = k
        · rw [y, e66]; exact nw u u0 (by omega)
        · rw [e6 v y]; exact I44 u v u0 uv (by omega)
      · rw [s7]
        by_cases y : u = nxt
        · rw [y, e77]
          exact ⟨fun z => absurd z (by omega), fun z => absurd (show V6 (x + 6) k = nxt by rw [s6, e66]) (z k (by omega) (by omega))⟩
        · rw [e7 u y, I45 u u0 u1]
          constructor
          · intro z m m0 m1
            rw [s6]
            by_cases y2 : m = k
            · rw [y2, e66]; exact fun e => y e.symm
            · rw [e6 m y2]; exact z m m0 (by omega)
          · intro z m m0 m1
            have := z m m0 (by omega)
            rw [s6, e6 m (by omega)] at this
            exact this
      · rw [s6]
        by_cases y : m = k
        · rw [y, e66, n1 s s0 s1, ep, g4]
          have c6 := I46 i s i0.1 ik s0 s1
          have sb := st j _ j0.1 (by omega) c6.1 (by omega)
          rw [hN1] at sb
          refine ⟨sb.1, sb.2.1, ?_⟩
          rw [sb.2.2, c6.2.2, cmp_as, ← ss.2.2]
        · rw [e6 m y, n2 s _ s0 s1 (I42 m m0 (by omega)).1 (I42 m m0 (by omega)).2 (nw m m0 (by omega)), ep]
          exact I46 m s m0 (by omega) s0 s1
  · have e1 : (wr V2 (x + 7) a 0) x 1 = N := by rw [wr_a (by omega)]; exact v1
    have q := q (by omega) (by omega) (by omega) c0.2 cn'
    rw [e1]
    exact ⟨by omega, n', gp', by omega, by omega, ih _ _ (nx 0 (by rw [if_neg z1]) (by omega)) (by omega)⟩
  · have e1 : (wr V2 (x + 7) a 1) x 1 = N := by rw [wr_a (by omega)]; exact v1
    have q := q (by omega) (by omega) (by omega) c0.2 cn'
    rw [e1]
    exact ⟨by omega, n', gp', by omega, by omega, ih _ _ (nx 1 (by rw [if_pos z1]) (by omega)) (by omega)⟩
end
