/-! the class's turns, exactly -/
abbrev Sco (x : Nat) : Nat → Int → Prop := fun c i => (c = x ∧ i = 1) ∨ c = x + 1
abbrev Smk (x : Nat) : Nat → Int → Prop := fun c i => (c = x ∧ i = 2) ∨ c = x + 5
abbrev cO (c : Int) : Prop := 0 ≤ c ∧ c < 16777216
def cmp (c e : Int) : Int := cd (fun p => dg e (dg c p))
theorem cmp_r (c e : Int) : cO (cmp c e) := cd_r (fun p _ _ => dg_r _ _)
theorem dg_cmp {c e p : Int} (hp : 0 ≤ p ∧ p ≤ 7) : dg (cmp c e) p = dg e (dg c p) := dg_cd (r := fun p => dg e (dg c p)) (fun p _ _ => dg_r _ _) hp
theorem cd_e {r s : Int → Int} (h : ∀ p, 0 ≤ p → p ≤ 7 → r p = s p) : cd r = cd s := by
  unfold cd
  rw [h 0 (by omega) (by omega), h 1 (by omega) (by omega), h 2 (by omega) (by omega), h 3 (by omega) (by omega), h 4 (by omega) (by omega), h 5 (by omega) (by omega), h 6 (by omega) (by omega), h 7 (by omega) (by omega)]
theorem dg_inj {c e : Int} (hc : cO c) (he : cO e) (h : ∀ p, 0 ≤ p → p ≤ 7 → dg c p = dg e p) : c = e := by
  rw [← cd_dg hc, ← cd_dg he]
  exact cd_e h
theorem cmp_as (a b c : Int) : cmp (cmp a b) c = cmp a (cmp b c) := by
  refine dg_inj (cmp_r _ _) (cmp_r _ _) (fun p p0 p1 => ?_)
  rw [dg_cmp ⟨p0, p1⟩, dg_cmp ⟨p0, p1⟩, dg_cmp ⟨p0, p1⟩, dg_cmp (dg_r a p)]
theorem dg_id {p : Int} (hp : 0 ≤ p ∧ p ≤ 7) : dg 342391 p = p := by
  have : p = 0 ∨ p = 1 ∨ p = 2 ∨ p = 3 ∨ p = 4 ∨ p = 5 ∨ p = 6 ∨ p = 7 := by omega
  rcases this with q | q | q | q | q | q | q | q <;> subst q <;> decide
theorem cmp_l {c : Int} (h : cO c) : cmp 342391 c = c := dg_inj (cmp_r _ _) h (fun p p0 p1 => by rw [dg_cmp ⟨p0, p1⟩, dg_id ⟨p0, p1⟩])
theorem cmp_rr {c : Int} (h : cO c) : cmp c 342391 = c := dg_inj (cmp_r _ _) h (fun p p0 p1 => by rw [dg_cmp ⟨p0, p1⟩, dg_id (dg_r c p)])
/-- as many that differ as there is room for -/
theorem inj_le {φ : Int → Int} {n N : Int} (h0 : 0 ≤ N) (h1 : ∀ i, 0 ≤ i → i < n → 0 ≤ φ i ∧ φ i < N) (h2 : ∀ i j, 0 ≤ i → i < j → j < n → φ i ≠ φ j) : n ≤ N := by
  apply Classical.byContradiction
  intro z
  obtain ⟨i, i0, i1, i2⟩ := pig (φ := φ) (n := n) (by omega) (fun i a b => by have := h1 i a b; omega) (fun i j a b c d e => by
    rcases Int.lt_trichotomy i j with q | q | q
    · exact absurd e (h2 i j a q d)
    · exact q
    · exact absurd e.symm (h2 j i c q b)) (y := N) (by omega) (by omega)
  have := h1 i i0 i1
  omega
section
variable {G : List gS} {R V : gV} {T : gT} {x p n : Nat} {C D : Int}
theorem behind_c {s t : Int} (hs : cO s) (ht : cO t) : cpI 2 (cmp s t) 148 [(0, s), (0, t)] G R V := behind_e hs ht
theorem indexIn_e {q m : Nat} (hq : G[q]? = some (.inr (0, m))) {l v : Int} (hl : 0 ≤ l ∧ l ≤ m) (h32 : i32 l) (hv : i32 v) : cwv 1 (fun r V' => ∃ k : Int, r = some (0, k) ∧ (V' = V ∧ ((k = -1 ∧ ∀ i, 0 ≤ i → i < l → V q i ≠ v) ∨ (0 ≤ k ∧ k < l ∧ V q k = v)))) 94 [(4, (q : Int)), (0, l), (0, v)] G R V := by
  refine c_X6_indexIn (t_X6_indexIn_0 hq ?_)
  refine pool1 (f := fun i => [some (4, (q : Int)), some (0, l), some (0, v), some (0, i)]) (Inv := fun i => 0 ≤ i ∧ i ≤ l ∧ ∀ j, 0 ≤ j → j < i → V q j ≠ v) (μ := fun i => (l - i).toNat) (fun i h ih => ?_) 0 ⟨by omega, by omega, fun j j0 j1 => by omega⟩
  obtain ⟨i0, i1, hj⟩ := h
  refine t_X6_indexIn_2 hq ⟨by omega, h32, fun c => ⟨-1, rfl, rfl, Or.inl ⟨rfl, fun j j0 j1 => hj j j0 (by omega)⟩⟩, fun c => ⟨fun c2 => absurd c2 (by omega), fun c2 => ⟨by omega, fun _ => ⟨hv, fun c3 => ⟨by omega, ih _ ⟨by omega, by omega, fun j j0 j1 => ?_⟩ (by omega)⟩, fun c3 => ⟨i, rfl, rfl, Or.inr ⟨i0, c, c3⟩⟩⟩⟩⟩⟩
  by_cases e : j = i
  · rw [e]; exact c3
  · exact hj j j0 (by omega)
/-- which makers are kept -/
def mkP (sc mc : Int → Int) (mk : Int) : Prop := (0 ≤ mk ∧ mk ≤ 4) ∧ (∀ m, 0 ≤ m → m < mk → ∃ s, 0 ≤ s ∧ s < 4 ∧ mc m = sc s) ∧ (∀ s, 0 ≤ s → s < 4 → sc s = 342391 ∨ ∃ m, 0 ≤ m ∧ m < mk ∧ mc m = sc s)
theorem keepMakers_x (t : tAB G R T x C D) (th : TH T V) {q : Nat} (hq : G[q]? = some (.inr (0, 4))) (hqx : q < x ∨ x + 7 < q) : cwv 2 (fun r V' => r = none ∧ (TH T V' ∧ Fr (Smk x) V V' ∧ mkP (fun s => V q s) (fun m => V' (x + 5) m) (V' x 2))) 93 [(4, (x : Int)), (4, (q : Int))] G R V := by
  refine c_X6_keepMakers (t_X6_keepMakers_0 t.ly hq ?_)
  refine loop1 (f := fun s => [some (4, (x : Int)), some (4, (q : Int)), some (0, s)]) (Inv := fun s V1 => TH T V1 ∧ Fr (Smk x) V V1 ∧ (0 ≤ s ∧ s ≤ 4) ∧ (0 ≤ V1 x 2 ∧ V1 x 2 ≤ s) ∧ (∀ m, 0 ≤ m → m < V1 x 2 → ∃ s', 0 ≤ s' ∧ s' < 4 ∧ V1 (x + 5) m = V q s') ∧ (∀ s', 0 ≤ s' → s' < s → V q s' = 342391 ∨ ∃ m, 0 ≤ m ∧ m < V1 x 2 ∧ V1 (x + 5) m = V q s')) (μ := fun s _ => (4 - s).toNat) (fun s V1 h ih => ?_) 0 _ ⟨TH_wr th ((t.mm _).mpr (by omega)), Fr_w Fr_0 (Or.inl ⟨rfl, rfl⟩), by omega, by rw [wr_same]; omega, fun m m0 m1 => by rw [wr_same] at m1; omega, fun s' a b => by omega⟩
  obtain ⟨th1, fr, s0, m0, hm, hs⟩ := h
  have vq : ∀ i, V1 q i = V q i := fun i => fr q i (by omega)
  refine t_X6_keepMakers_7 t.ly hq ⟨by omega, fun c => ⟨rfl, th1, fr, by omega, hm, fun s' a b => hs s' a (by omega)⟩, fun c => ⟨fun c2 => absurd c2 (by omega), fun _ => ⟨by omega, fun e => ⟨fun z => ⟨by omega, ih _ _ ⟨th1, fr, by omega, by omega, hm, fun s' a b => ?_⟩ (by omega)⟩, fun z _ => ?_⟩⟩⟩⟩
  · by_cases y : s' = s
    · left; rw [y, ← vq]; exact z
    · exact hs s' a (by omega)
  · refine cwI_u (by omega) (indexIn_e (ly6_7 t.ly).2 (by omega) (by omega) e) (fun v V2 hv => ?_)
    obtain ⟨eV, hv⟩ := hv
    subst eV
    have v4 : -1 ≤ v ∧ v < 4 := by
      rcases hv with w | w
      · have := w.1; omega
      · have := w.2.1; omega
    refine ⟨by omega, fun z2 => ⟨by omega, ih _ _ ⟨th1, fr, by omega, by omega, hm, fun s' a b => ?_⟩ (by omega)⟩, fun z2 _ _ => ⟨by omega, by omega, by omega, ih _ _ ⟨TH_wr (TH_wr th1 (t.mc _ _)) ((t.mm _).mpr (by omega)), Fr_w (Fr_w fr (Or.inr rfl)) (Or.inl ⟨rfl, rfl⟩), by omega, by rw [wr_same]; omega, fun m a b => ?_, fun s' a b => ?_⟩ (by omega)⟩⟩
    · by_cases y : s' = s
      · right
        rcases hv with w | w
        · exact absurd w.1 z2
        · exact ⟨v, w.1, w.2.1, by rw [y, w.2.2]; exact vq s⟩
      · exact hs s' a (by omega)
    · rw [wr_same] at b
      rw [wr_a (by omega)]
      by_cases y : m = V2 x 2
      · exact ⟨s, s0.1, c, by rw [y, wr_same]; exact vq s⟩
      · rw [wr_i y]; exact hm m a (by omega)
    · rw [wr_same]
      by_cases y : s' = s
      · right
        exact ⟨V2 x 2, m0.1, by omega, by rw [wr_a (by omega), wr_same, y]; exact vq s⟩
      · rcases hs s' a (by omega) with w | ⟨m, w1, w2, w3⟩
        · exact Or.inl w
        · right
          exact ⟨m, w1, by omega, by rw [wr_a (by omega), wr_i (by omega)]; exact w3⟩
/-- the turns that are collected: each from an earlier one and a maker, no two alike -/
def clc (cs mc : Int → Int) (mk n : Int) : Prop := (1 ≤ n ∧ n ≤ 120) ∧ (∀ j, 0 ≤ j → j < n → cO (cs j)) ∧ cs 0 = 342391 ∧ (∀ i j, 0 ≤ i → i < j → j < n → cs i ≠ cs j) ∧ (∀ j, 0 < j → j < n → ∃ k m, 0 ≤ k ∧ k < j ∧ 0 ≤ m ∧ m < mk ∧ cs j = cmp (cs k) (mc m))
def cld (cs mc : Int → Int) (mk n k m : Int) : Prop := ∀ k' m', 0 ≤ k' → 0 ≤ m' → m' < mk → (k' < k ∨ (k' = k ∧ m' < m)) → ∃ j, 0 ≤ j ∧ j < n ∧ cs j = cmp (cs k') (mc m')
def coX (cs mc : Int → Int) (mk n v : Int) : Prop := clc cs mc mk n ∧ ((v = 1 ∧ cld cs mc mk n n 0) ∨ (v = 0 ∧ n = 120 ∧ ∃ k m, 0 ≤ k ∧ k < n ∧ 0 ≤ m ∧ m < mk ∧ ∀ j, 0 ≤ j → j < n → cs j ≠ cmp (cs k) (mc m)))
theorem collect_x (t : tAB G R T x C D) (th : TH T V) (cw_ : ∀ v, 1 ≤ v → v ≤ 120 → T x 1 v) (hmk : 0 ≤ V x 2 ∧ V x 2 ≤ 4) (hmc : ∀ m, 0 ≤ m → m < V x 2 → cO (V (x + 5) m)) : cwv 3 (fun r V' => ∃ v : Int, r = some (0, v) ∧ (TH T V' ∧ Fr (Sco x) V V' ∧ coX (fun j => V' (x + 1) j) (fun m => V (x + 5) m) (V x 2) (V' x 1) v)) 95 [(4, (x : Int))] G R V := by
  have hd := t.d0
  refine c_X6_collect (t_X6_collect_0 t.ly ?_)
  refine loop1 (f := fun a => [some (4, (x : Int)), some (0, a)]) (Inv := fun a V1 => TH T V1 ∧ Fr (Sco x) V V1 ∧ (0 ≤ a ∧ a ≤ V1 x 1) ∧ clc (fun j => V1 (x + 1) j) (fun m => V (x + 5) m) (V x 2) (V1 x 1) ∧ cld (fun j => V1 (x + 1) j) (fun m => V (x + 5) m) (V x 2) (V1 x 1) a 0) (μ := fun a _ => (121 - a).toNat) (fun a V1 h ih => ?_) 0 _ ⟨TH_wr (TH_wr th (t.co _ _)) (cw_ _ (by omega) (by omega)), Fr_w (Fr_w Fr_0 (Or.inr rfl)) (Or.inl ⟨rfl, rfl⟩), by rw [wr_same]; omega, ?_, fun k' m' a b c d => by omega⟩
  · obtain ⟨th1, fr, a0, cl, dn⟩ := h
    have c120 := cl.1
    refine t_X6_collect_15 t.ly (fun _ => ⟨by omega, fun c => ⟨1, rfl, th1, fr, cl, Or.inl ⟨rfl, ?_⟩⟩, fun c => ⟨fun c2 => absurd c2 (by omega), fun _ => ?_⟩⟩)
    · have e : a = V1 x 1 := by omega
      rw [e] at dn; exact dn
    refine loop1 (f := fun b => [some (4, (x : Int)), some (0, a), some (0, b)]) (Inv := fun b V1 => TH T V1 ∧ Fr (Sco x) V V1 ∧ (0 ≤ b ∧ b ≤ 4) ∧ a < V1 x 1 ∧ clc (fun j => V1 (x + 1) j) (fun m => V (x + 5) m) (V x 2) (V1 x 1) ∧ cld (fun j => V1 (x + 1) j) (fun m => V (x + 5) m) (V x 2) (V1 x 1) a b) (μ := fun b _ => (4 - b).toNat) (fun b V1 h2 ih2 => ?_) 0 V1 ⟨th1, fr, by omega, c, cl, dn⟩
    clear th1 fr cl dn c120 c
    obtain ⟨th1, fr, b0, c, cl, dn⟩ := h2
    have v2 : V1 x 2 = V x 2 := fr _ _ (by omega)
    have v5 : ∀ i, V1 (x + 5) i = V (x + 5) i := fun i => fr _ _ (by omega)
    obtain ⟨c1, c2, c3, c4, c5⟩ := id cl
    refine t_X6_collect_31 t.ly (fun _ => ⟨by omega, fun z => ⟨by omega, ih _ _ ⟨th1, fr, by omega, cl, fun k' m' q1 q2 q3 q4 => dn k' m' q1 q2 q3 (by omega)⟩ (by omega)⟩, fun z => ⟨by omega, fun _ => ⟨by omega, fun _ => ?_⟩⟩⟩)
    have ca := c2 a a0.1 c
    have cm := hmc b b0.1 (by omega)
    dsimp only at ca
    rw [v5]
    refine cpI_u (by omega) (behind_c ca cm) (fun _ => ?_)
    have cr := cmp_r (V1 (x + 1) a) (V (x + 5) b)
    refine cwI_u (by omega) (indexIn_e (ly6_3 t.ly).2 (by omega) (by omega) (by omega)) (fun v V2 hv => ?_)
    obtain ⟨eV, hv⟩ := hv
    subst eV
    have v4 : -1 ≤ v ∧ v < 120 := by
      rcases hv with w | w
      · have := w.1; omega
      · have := w.2.1; omega
    refine ⟨by omega, fun z2 => ⟨by omega, ih2 _ _ ⟨th1, fr, by omega, c, cl, fun k' m' q1 q2 q3 q4 => ?_⟩ (by omega)⟩, fun z2 _ => ⟨fun z3 => ⟨by omega, by omega, by omega, by omega, ih2 _ _ ⟨TH_wr (TH_wr th1 (t.co _ _)) (cw_ _ (by omega) (by omega)), Fr_w (Fr_w fr (Or.inr rfl)) (Or.inl ⟨rfl, rfl⟩), by omega, by rw [wr_same]; omega, ?_, ?_⟩ (by omega)⟩, fun z3 => ⟨0, rfl, th1, fr, cl, Or.inr ⟨rfl, by omega, a, b, a0.1, c, b0.1, by omega, ?_⟩⟩⟩⟩
    · by_cases y : k' = a ∧ m' = b
      · rcases hv with w | w
        · exact absurd w.1 z2
        · exact ⟨v, w.1, w.2.1, by rw [y.1, y.2]; exact w.2.2⟩
      · exact dn k' m' q1 q2 q3 (by omega)
    · have nw : ∀ j, 0 ≤ j → j < V2 x 1 → V2 (x + 1) j ≠ cmp (V2 (x + 1) a) (V (x + 5) b) := by
        rcases hv with w | w
        · exact w.2
        · have := w.1; omega
      have e1 : ∀ j, j ≠ V2 x 1 → wr (wr V2 (x + 1) (V2 x 1) (cmp (V2 (x + 1) a) (V (x + 5) b))) x 1 (V2 x 1 + 1) (x + 1) j = V2 (x + 1) j := fun j hj => by rw [wr_a (by omega), wr_i hj]
      have e2 : wr (wr V2 (x + 1) (V2 x 1) (cmp (V2 (x + 1) a) (V (x + 5) b))) x 1 (V2 x 1 + 1) (x + 1) (V2 x 1) = cmp (V2 (x + 1) a) (V (x + 5) b) := by rw [wr_a (by omega), wr_same]
      rw [wr_same]
      refine ⟨by omega, fun j j0 j1 => ?_, ?_, fun i j i0 ij j1 => ?_, fun j j0 j1 => ?_⟩
      · dsimp only
        by_cases y : j = V2 x 1
        · rw [y, e2]; exact cr
        · rw [e1 j y]; exact c2 j j0 (by omega)
      · dsimp only
        rw [e1 0 (by omega)]; exact c3
      · dsimp only
        rw [e1 i (by omega)]
        by_cases y : j = V2 x 1
        · rw [y, e2]; exact nw i i0 (by omega)
        · rw [e1 j y]; exact c4 i j i0 ij (by omega)
      · dsimp only
        by_cases y : j = V2 x 1
        · refine ⟨a, b, a0.1, by omega, b0.1, by omega, ?_⟩
          rw [y, e2, e1 a (by omega)]
        · obtain ⟨k, m, w1, w2, w3, w4, w5⟩ := c5 j j0 (by omega)
          refine ⟨k, m, w1, w2, w3, w4, ?_⟩
          rw [e1 j y, e1 k (by omega)]; exact w5
    · intro k' m' q1 q2 q3 q4
      dsimp only
      have e1 : ∀ j, j ≠ V2 x 1 → wr (wr V2 (x + 1) (V2 x 1) (cmp (V2 (x + 1) a) (V (x + 5) b))) x 1 (V2 x 1 + 1) (x + 1) j = V2 (x + 1) j := fun j hj => by rw [wr_a (by omega), wr_i hj]
      have e2 : wr (wr V2 (x + 1) (V2 x 1) (cmp (V2 (x + 1) a) (V (x + 5) b))) x 1 (V2 x 1 + 1) (x + 1) (V2 x 1) = cmp (V2 (x + 1) a) (V (x + 5) b) := by rw [wr_a (by omega), wr_same]
      rw [wr_same, e1 k' (by omega)]
      by_cases y : k' = a ∧ m' = b
      · exact ⟨V2 x 1, by omega, by omega, by rw [e2, y.1, y.2]⟩
      · obtain ⟨j, w1, w2, w3⟩ := dn k' m' q1 q2 q3 (by omega)
        dsimp only at w3
        exact ⟨j, w1, by omega, by rw [e1 j (by omega)]; exact w3⟩
    · rcases hv with w | w
      · exact w.2
      · have := w.1; omega
  · rw [wr_same]
    refine ⟨by omega, fun j j0 j1 => ?_, ?_, fun i j i0 ij j1 => by omega, fun j j0 j1 => by omega⟩
    · dsimp only
      rw [show j = 0 by omega, wr_a (by omega), wr_same]; exact ⟨by omega, by omega⟩
    · dsimp only
      rw [wr_a (by omega), wr_same]
end
