/-! turns are built, exactly -/
def tX (V : gV) (x p : Nat) : Prop := (1 ≤ V x 1 ∧ V x 1 ≤ 120) ∧ (0 ≤ V x 2 ∧ V x 2 ≤ 4) ∧ GT (V x 1) (pMul V x p) (fun t => V (x + 2) t) ∧ (∀ t, 0 ≤ t → t < V x 1 → 1 ≤ V (x + 3) t ∧ isOr (pMul V x p) t (V (x + 3) t).toNat) ∧ (∀ m, 0 ≤ m → m < V x 2 → 0 ≤ V (x + 4) (m * 120) ∧ V (x + 4) (m * 120) < V x 1) ∧ (∀ S : Int → Prop, S 0 → (∀ t m, 0 ≤ t → t < V x 1 → 0 ≤ m → m < V x 2 → S t → S (pMul V x p t (V (x + 4) (m * 120)))) → ∀ t, 0 ≤ t → t < V x 1 → S t)
def tbX (sc : Int → Int) (V : gV) (x p : Nat) (v : Int) : Prop := mkP sc (fun m => V (x + 5) m) (V x 2) ∧ ((v = 0 ∧ coX (fun j => V (x + 1) j) (fun m => V (x + 5) m) (V x 2) (V x 1) 0) ∨ (v = 1 ∧ wS (fun j => V (x + 1) j) (fun m => V (x + 5) m) (V x 2) (V x 1) ∧ ris (fun j => V (x + 1) j) (V x 1) ∧ isM (fun j => V (x + 1) j) (V x 1) (pMul V x p) ∧ tX V x p))
theorem stP2_m {V V' : gV} {x : Nat} (h : stP2 V x) (e1 : V' x 1 = V x 1) (e2 : V' x 2 = V x 2) (e3 : ∀ i, V' (x + 1) i = V (x + 1) i) (e4 : ∀ i, V' (x + 4) i = V (x + 4) i) (e5 : ∀ i, V' (x + 5) i = V (x + 5) i) : stP2 V' x := by
  intro m s m0 m1 s0 s1
  rw [e1] at s1 ⊢
  rw [e2] at m1
  rw [e4, e3, e3, e5]
  exact h m s m0 m1 s0 s1
theorem tX_mk {V : gV} {x p : Nat} (mk0 : 0 ≤ V x 2 ∧ V x 2 ≤ 4) (ws : wS (fun j => V (x + 1) j) (fun m => V (x + 5) m) (V x 2) (V x 1)) (hm : ∀ m, 0 ≤ m → m < V x 2 → pm (V (x + 5) m)) (hc : ∀ m, 0 ≤ m → m < V x 2 → cO (V (x + 5) m)) (hr : ris (fun j => V (x + 1) j) (V x 1)) (st : stP2 V x) (mu : isM (fun j => V (x + 1) j) (V x 1) (pMul V x p)) (po : ∀ a, 0 ≤ a → a < V x 1 → powP V x p a) : tX V x p := by
  obtain ⟨gr, sr, id0⟩ := fR_GR ws hm hr
  obtain ⟨inv, g⟩ := isM_GT gr sr mu
  have N1 := ws.1
  (try dsimp only at id0)
  have sm0 : ∀ m, 0 ≤ m → m < V x 2 → 0 ≤ V (x + 4) (m * 120) ∧ V (x + 4) (m * 120) < V x 1 ∧ V (x + 1) (V (x + 4) (m * 120)) = V (x + 5) m := fun m m0 m1 => by
    have := st m 0 m0 m1 (by omega) (by omega)
    rw [show m * 120 + 0 = m * 120 by omega, id0, cmp_l (hc m m0 m1)] at this
    exact this
  refine ⟨N1, mk0, ?_, fun t t0 t1 => ⟨(po t t0 t1).1, (po t t0 t1).2.1⟩, fun m m0 m1 => ⟨(sm0 m m0 m1).1, (sm0 m m0 m1).2.1⟩, fun S s0 ss t t0 t1 => ?_⟩
  · refine ⟨g.1, g.2.1, g.2.2.1, g.2.2.2.1, fun s s0 s1 => ?_⟩
    obtain ⟨o1, o2, o3⟩ := po s s0 s1
    have rg := pw_r g (x := s) ⟨s0, s1⟩ ((V (x + 3) s).toNat - 1)
    (try dsimp only)
    rw [o3]
    have h1 : pMul V x p (pw (pMul V x p) s ((V (x + 3) s).toNat - 1)) s = 0 := by
      have := o2.2.1
      rw [show (V (x + 3) s).toNat = ((V (x + 3) s).toNat - 1) + 1 by omega] at this
      exact this
    have h2 : pMul V x p s (pw (pMul V x p) s ((V (x + 3) s).toNat - 1)) = 0 := by
      have := pw_add g (x := s) ⟨s0, s1⟩ 1 ((V (x + 3) s).toNat - 1)
      rw [show 1 + ((V (x + 3) s).toNat - 1) = (V (x + 3) s).toNat by omega, o2.2.1, pw_1 g ⟨s0, s1⟩] at this
      exact this.symm
    exact ⟨rg.1, rg.2, h2, h1⟩
  · have all : ∀ c, In1 (fun j => V (x + 1) j) (V x 1) c → ∀ u, 0 ≤ u → u < V x 1 → V (x + 1) u = c → S u := by
      refine ws.2.2.2.2 _ (fun u u0 u1 e => ?_) (fun c m m0 m1 hc ih u u0 u1 e => ?_)
      · have : u = 0 := ris_inj hr ⟨u0, u1⟩ ⟨by omega, by omega⟩ (by (try dsimp only); rw [e, id0])
        rw [this]; exact s0
      · obtain ⟨y, y0, y1, y2⟩ := hc
        (try dsimp only at y2)
        have g0 := sm0 m m0 m1
        have q := mu y _ y0 y1 g0.1 g0.2.1
        have eu : u = pMul V x p y (V (x + 4) (m * 120)) := ris_inj hr ⟨u0, u1⟩ ⟨q.1, q.2.1⟩ (by have w := q.2.2; (try dsimp only at w e); rw [w, e, g0.2.2, y2])
        rw [eu]
        exact ss y m y0 y1 m0 m1 (ih y y0 y1 y2)
    exact all _ ⟨t, t0, t1, rfl⟩ t t0 t1 rfl
section
variable {G : List gS} {R V : gV} {T : gT} {x p n : Nat} {C D : Int}
def bdX (G : List gS) (R : gV) (T : gT) (x p n : Nat) (a : Int) (sc : Int → Int) (v : Int) (G' : List gS) (R' V' : gV) : Prop := ∃ (T' : gT) (p' n' : Nat) (C' D' : Int), TH T' V' ∧ tT G' R' T' x p' n' C' D' ∧ (v ≠ 0 → D' ≤ C') ∧ x + 7 < p' ∧ (∀ c, (c < x ∨ x + 7 < c) → c ≠ p → c ≠ p' → T' c = T c) ∧ (∀ c i, (c ≠ x ∨ i ≠ 10) → R' c i = R c i) ∧ gR G p n G' p' n' 28800 ∧ tbX sc V' x p' v ∧ (v ≠ 0 → V' x 0 = a ∧ ∀ c, ((x ≤ c ∧ c ≤ x + 7) ∨ c = p') → ∀ i w, T' c i w → w = V' c i)
theorem turnsBuild_x (t : tTB G R T x p n C D) (th : TH T V) (hp : x + 7 < p) {a : Int} (ha : 1 ≤ a ∧ a ≤ 8) {q : Nat} (hq : G[q]? = some (gA 0 4)) (hqx : q < x ∨ x + 7 < q) (hsc : ∀ s, 0 ≤ s → s < 4 → cO (V q s) ∧ pm (V q s)) : cw 4 (fun r G' R' V' => ∃ v : Int, r = some (0, v) ∧ (0 ≤ v ∧ v ≤ 1) ∧ bdX G R T x p n a (fun s => V q s) v G' R' V') 92 [(4, (x : Int)), (0, a), (4, (q : Int))] G R V := by
  have c0 := t.c0
  refine c_X6_build (t_X6_build_0 ⟨ly6_o t.ly, by omega, ?_⟩)
  have t1 : tTB G R (upF T x 1 (fun v => 1 ≤ v ∧ v ≤ 120)) x p n C 120 := by
    refine tTB.mk (tAB.mk t.ly t.c0 (by omega) ?_ ?_ ?_ ?_ ?_ ?_ ?_ ?_ ?_ ?_) t.rp t.gp t.cn ?_
    · rw [upF_i (by omega)]; exact t.pl
    · exact fun v h => by have := upF_s.mp h; omega
    · rw [upF_i (by omega)]; exact t.mm
    · rw [upF_n (by omega)]; exact t.co
    · rw [upF_n (by omega)]; exact t.iv
    · rw [upF_n (by omega)]; exact t.od
    · rw [upF_n (by omega)]; exact t.st
    · rw [upF_n (by omega)]; exact t.mc
    · rw [upF_n (by omega)]; exact t.re
    · rw [upF_n (by omega)]; exact t.ir
    · rw [upF_n (by omega)]; exact t.pr
  have th1 : TH (upF T x 1 (fun v => 1 ≤ v ∧ v ≤ 120)) (wr V x 0 a) := by
    refine TH_upF (TH_wr th ((t.pl _).mpr ha)) ?_
    have := t.ct _ (th x 1)
    have := t.d0
    rw [wr_i (by omega)]
    omega
  have f1 : ∀ c, (c < x ∨ x + 7 < c) → upF T x 1 (fun v => 1 ≤ v ∧ v ≤ 120) c = T c := fun c h => upF_n (by omega)
  have s1 : ∀ v, 1 ≤ v → v ≤ 120 → upF T x 1 (fun v => 1 ≤ v ∧ v ≤ 120) x 1 v := fun v h1 h2 => upF_s.mpr ⟨h1, h2⟩
  clear th
  generalize upF T x 1 (fun v => 1 ≤ v ∧ v ≤ 120) = T1 at *
  have eq0 : (fun s => wr V x 0 a q s) = fun s => V q s := funext (fun s => wr_a (by omega))
  refine cw0_u (by omega) (keepMakers_x t1.a th1 hq hqx) (fun V3 h3 => ?_)
  obtain ⟨th3, f3, mkp⟩ := h3
  have pl3 : V3 x 0 = a := by rw [f3 _ _ (by omega), wr_same]
  rw [eq0] at mkp
  have hmc : ∀ m, 0 ≤ m → m < V3 x 2 → cO (V3 (x + 5) m) ∧ pm (V3 (x + 5) m) := fun m m0 m1 => by
    obtain ⟨s, s0, s2, e⟩ := mkp.2.1 m m0 m1
    (try dsimp only at e)
    rw [e]; exact hsc s s0 s2
  refine cwI_u (by omega) (collect_x t1.a th3 s1 mkp.1 (fun m m0 m1 => (hmc m m0 m1).1)) (fun v5 V4 h4 => ?_)
  obtain ⟨th4, f4, cx⟩ := h4
  have k2 : V4 x 2 = V3 x 2 := f4 _ _ (by omega)
  have k5 : ∀ i, V4 (x + 5) i = V3 (x + 5) i := fun i => f4 _ _ (by omega)
  have k5f : (fun m => V4 (x + 5) m) = fun m => V3 (x + 5) m := funext k5
  have v01 : v5 = 0 ∨ v5 = 1 := by
    rcases cx.2 with w | w
    · exact Or.inr w.1
    · exact Or.inl w.1
  refine ⟨by omega, fun hv5 => ?_, fun hv5 => ⟨0, rfl, by omega, T1, p, n, C, 120, th4, t1.r, fun z => absurd rfl z, hp, fun c h _ _ => f1 c h, fun _ _ _ => rfl, Or.inl ⟨rfl, rfl, rfl⟩, ⟨by rw [k5f, k2]; exact mkp, Or.inl ⟨rfl, by rw [k5f, k2, ← hv5]; exact cx⟩⟩, fun z => absurd rfl z⟩⟩
  have ct := t1.ct _ (th4 x 1)
  have cl := cx.1
  have dn : cld (fun j => V4 (x + 1) j) (fun m => V3 (x + 5) m) (V3 x 2) (V4 x 1) (V4 x 1) 0 := by
    rcases cx.2 with w | w
    · exact w.2
    · exact absurd w.1 hv5
  have ws4 := wS_cl cl dn
  have ds4 : ∀ i j, 0 ≤ i → i < j → j < V4 x 1 → V4 (x + 1) i ≠ V4 (x + 1) j := cl.2.2.2.1
  obtain ⟨N, eN⟩ : ∃ N, N = V4 x 1 := ⟨_, rfl⟩
  rw [← eN] at ct
  obtain ⟨C2, h1, h2, h3, h4⟩ : ∃ C2 : Int, C ≤ C2 ∧ N ≤ C2 ∧ C2 ≤ 120 ∧ ((C2 = C ∧ N * N ≤ n) ∨ C2 = N) := by
    by_cases h : N ≤ C
    · exact ⟨C, by omega, h, by omega, Or.inl ⟨rfl, Int.le_trans (Int.mul_le_mul h h (by omega) (by omega)) t.cn⟩⟩
    · exact ⟨N, by omega, by omega, by omega, Or.inr rfl⟩
  obtain ⟨T2, eT⟩ : ∃ T2, T2 = upF (upT (upT (upT (upT T1 (x + 2) (fun v => 0 ≤ v ∧ v < C2)) (x + 4) (fun v => 0 ≤ v ∧ v < C2)) (x + 6) (fun v => 0 ≤ v ∧ v < C2)) p (fun v => 0 ≤ v ∧ v < C2)) x 1 (fun v => v = N) := ⟨_, rfl⟩
  have k0 : ∀ c, c ≠ x → c ≠ x + 2 → c ≠ x + 4 → c ≠ x + 6 → c ≠ p → T2 c = T1 c := fun c z1 z2 z3 z4 z5 => by rw [eT, upF_n z1, upT_n z5, upT_n z4, upT_n z3, upT_n z2]
  have k1 : ∀ i, i ≠ 1 → T2 x i = T1 x i := fun i z => by rw [eT, upF_i z, upT_n (by omega), upT_n (by omega), upT_n (by omega), upT_n (by omega)]
  have kk2 : ∀ i v, T2 (x + 2) i v ↔ 0 ≤ v ∧ v < C2 := fun i v => by rw [eT, upF_n (by omega), upT_n (by omega), upT_n (by omega), upT_n (by omega)]; exact upT_s
  have k4 : ∀ i v, T2 (x + 4) i v ↔ 0 ≤ v ∧ v < C2 := fun i v => by rw [eT, upF_n (by omega), upT_n (by omega), upT_n (by omega)]; exact upT_s
  have k6 : ∀ i v, T2 (x + 6) i v ↔ 0 ≤ v ∧ v < C2 := fun i v => by rw [eT, upF_n (by omega), upT_n (by omega)]; exact upT_s
  have kp : ∀ i v, T2 p i v ↔ 0 ≤ v ∧ v < C2 := fun i v => by rw [eT, upF_n (by omega)]; exact upT_s
  have kn : ∀ v, T2 x 1 v ↔ v = N := fun v => by rw [eT]; exact upF_s
  have th2 : TH T2 V4 := by
    rw [eT]
    refine TH_upF (TH_upT (TH_upT (TH_upT (TH_upT th4 (fun i => ?_)) (fun i => ?_)) (fun i => ?_)) (fun i => ?_)) eN.symm
    · have := (t1.iv _ _).mp (th4 (x + 2) i); omega
    · have := (t1.st _ _).mp (th4 (x + 4) i); omega
    · have := (t1.re _ _).mp (th4 (x + 6) i); omega
    · have := (t1.pr _ _).mp (th4 p i); omega
  have t2 : tAB G R T2 x C2 N := by
    refine tAB.mk t.ly ⟨by omega, h3⟩ (by omega) ?_ ?_ ?_ ?_ kk2 ?_ k4 ?_ k6 ?_
    · rw [k1 0 (by omega)]; exact t1.pl
    · exact fun v h => by have := (kn v).mp h; omega
    · rw [k1 2 (by omega)]; exact t1.mm
    · rw [k0 (x + 1) (by omega) (by omega) (by omega) (by omega) (by omega)]; exact t1.co
    · rw [k0 (x + 3) (by omega) (by omega) (by omega) (by omega) (by omega)]; exact t1.od
    · rw [k0 (x + 5) (by omega) (by omega) (by omega) (by omega) (by omega)]; exact t1.mc
    · rw [k0 (x + 7) (by omega) (by omega) (by omega) (by omega) (by omega)]; exact t1.ir
  clear eT
  refine cw0_u (by omega) (sortCodes_x t2 th2 ds4) (fun V7 h7 => ?_)
  obtain ⟨th7, f7, sr⟩ := h7
  have a71 : V7 x 1 = V4 x 1 := f7 _ _ (by omega)
  have a72 : V7 x 2 = V3 x 2 := by rw [f7 _ _ (by omega)]; exact k2
  have a75 : ∀ i, V7 (x + 5) i = V3 (x + 5) i := fun i => by rw [f7 _ _ (by omega)]; exact k5 i
  have a75f : (fun m => V7 (x + 5) m) = fun m => V3 (x + 5) m := funext a75
  have ws7 : wS (fun j => V7 (x + 1) j) (fun m => V7 (x + 5) m) (V7 x 2) (V7 x 1) := by rw [a75f, a72, a71]; exact wS_sr ws4 sr
  have hr7 : ris (fun j => V7 (x + 1) j) (V7 x 1) := by rw [a71]; exact sr.1
  have hc7 : ∀ j, 0 ≤ j → j < V7 x 1 → cO (V7 (x + 1) j) := fun j j0 j1 => ws7.2.1 _ ⟨j, j0, j1, rfl⟩
  have hm7 : ∀ m, 0 ≤ m → m < V7 x 2 → cO (V7 (x + 5) m) ∧ pm (V7 (x + 5) m) := fun m m0 m1 => by rw [a75]; exact hmc m m0 (by omega)
  have cl7 : ∀ s m, 0 ≤ s → s < V7 x 1 → 0 ≤ m → m < V7 x 2 → ∃ k, 0 ≤ k ∧ k < V7 x 1 ∧ V7 (x + 1) k = cmp (V7 (x + 1) s) (V7 (x + 5) m) := fun s m s0 s1 m0 m1 => ws7.2.2.2.1 _ m ⟨s, s0, s1, rfl⟩ m0 m1
  refine cw0_u (by omega) (fillSteps_x t2 h2 th7 hr7 hc7 (by have := mkp.1; omega) (fun m m0 m1 => (hm7 m m0 m1).1) cl7) (fun V8 h8 => ?_)
  obtain ⟨th8, f8, st8⟩ := h8
  have b1 : V8 x 1 = V7 x 1 := f8 _ _ (by omega)
  have b2 : V8 x 2 = V7 x 2 := f8 _ _ (by omega)
  have b3f : (fun j => V8 (x + 1) j) = fun j => V7 (x + 1) j := funext (fun i => f8 _ _ (by omega))
  have b5f : (fun m => V8 (x + 5) m) = fun m => V7 (x + 5) m := funext (fun i => f8 _ _ (by omega))
  have b5 : ∀ i, V8 (x + 5) i = V7 (x + 5) i := fun i => f8 _ _ (by omega)
  have ws8 : wS (fun j => V8 (x + 1) j) (fun m => V8 (x + 5) m) (V8 x 2) (V8 x 1) := by rw [b3f, b5f, b2, b1]; exact ws7
  have hr8 : ris (fun j => V8 (x + 1) j) (V8 x 1) := by rw [b3f, b1]; exact hr7
  have hm8 : ∀ m, 0 ≤ m → m < V8 x 2 → cO (V8 (x + 5) m) ∧ pm (V8 (x + 5) m) := fun m m0 m1 => by rw [b5]; exact hm7 m m0 (by omega)
  obtain ⟨gr8, sr8, id8⟩ := fR_GR ws8 (fun m m0 m1 => (hm8 m m0 m1).2) hr8
  (try dsimp only at id8)
  have cc1 : N * N ≤ n → C2 * C2 ≤ n := by
    intro z
    rcases h4 with h4 | h4
    · rw [h4.1]; exact t.cn
    · rw [h4]; exact z
  have cc2 : (n : Int) < N * N → C2 = N := by
    intro z
    rcases h4 with h4 | h4
    · omega
    · exact h4
  refine cw_mono (by omega) (fillProducts_x t2 h2 (fun v => (kn v).mp) th8 t.rp t.gp (Or.inr hp) kp cc1 cc2 ws8 hr8 st8 id8) (fun r G9 R9 V9 h9 => ?_)
  obtain ⟨e1, p', n', eR, th9, t9, dj, hp9, f9, m9⟩ := h9
  have lx := (List.getElem?_eq_some_iff.mp (ly6_9 t.ly).2).1
  have d1 : V9 x 1 = V8 x 1 := f9 _ _ (by omega)
  have m9' : isM (fun j => V8 (x + 1) j) (V8 x 1) (pMul V9 x p') := by
    have : pMul V9 x p' = fun s t => V9 p' (s * V8 x 1 + t) := by funext s t; show V9 p' (s * V9 x 1 + t) = _; rw [d1]
    rw [this]; exact m9
  obtain ⟨inv9, g9⟩ := isM_GT gr8 sr8 m9'
  rw [← d1] at g9
  refine ⟨e1, ly6_o t9.ly, cw0_u (by omega) (fillPowers_x t9 h2 hp9 th9 g9) (fun V10 h10 => ?_)⟩
  obtain ⟨th10, f10, po10⟩ := h10
  have hp10 : x + 7 < p' := by rcases dj with dj | dj <;> omega
  have g1 : V10 x 1 = V8 x 1 := by rw [f10 _ _ (by omega)]; exact d1
  have g2 : V10 x 2 = V8 x 2 := by rw [f10 _ _ (by omega)]; exact f9 _ _ (by omega)
  have g3 : ∀ i, V10 (x + 1) i = V8 (x + 1) i := fun i => by rw [f10 _ _ (by omega)]; exact f9 _ _ (by omega)
  have g4 : ∀ i, V10 (x + 4) i = V8 (x + 4) i := fun i => by rw [f10 _ _ (by omega)]; exact f9 _ _ (by omega)
  have g5 : ∀ i, V10 (x + 5) i = V8 (x + 5) i := fun i => by rw [f10 _ _ (by omega)]; exact f9 _ _ (by omega)
  have g3f : (fun j => V10 (x + 1) j) = fun j => V8 (x + 1) j := funext g3
  have g5f : (fun m => V10 (x + 5) m) = fun m => V8 (x + 5) m := funext g5
  have gm : pMul V10 x p' = pMul V9 x p' := by
    funext s t
    show V10 p' (s * V10 x 1 + t) = V9 p' (s * V9 x 1 + t)
    rw [f10 p' _ (by omega), g1, d1]
  have ws10 : wS (fun j => V10 (x + 1) j) (fun m => V10 (x + 5) m) (V10 x 2) (V10 x 1) := by rw [g3f, g5f, g2, g1]; exact ws8
  have hr10 : ris (fun j => V10 (x + 1) j) (V10 x 1) := by rw [g3f, g1]; exact hr8
  have m10 : isM (fun j => V10 (x + 1) j) (V10 x 1) (pMul V10 x p') := by rw [g3f, g1, gm]; exact m9'
  have tx10 : tX V10 x p' := tX_mk (by rw [g2, b2, a72]; exact mkp.1) ws10 (fun m m0 m1 => by rw [g5]; exact (hm8 m m0 (by omega)).2) (fun m m0 m1 => by rw [g5]; exact (hm8 m m0 (by omega)).1) hr10 (stP2_m st8 g1 g2 g3 g4 g5) m10 (fun b b0 b1 => po10 b b0 (by omega))
  refine ⟨1, rfl, by omega, pinT (upT T2 p' (fun v => 0 ≤ v ∧ v < C2)) x p' V10, p', n', C2, N, pin_th th10, pin_tT t9.r th10, fun _ => h2, hp10, ?_, ?_, dj, ⟨?_, Or.inr ⟨rfl, ws10, hr10, m10, tx10⟩⟩, fun _ => ⟨?_, fun c hc i w hw => pin_s hc hw⟩⟩
  · intro c z1 z2 z3
    rw [pin_n (by omega), upT_n z3, k0 c (by omega) (by omega) (by omega) (by omega) z2, f1 c z1]
  · intro c i z
    rw [eR]
    rcases z with z | z
    · exact wr_a z
    · exact wr_i z
  · rw [g5f, b5f, a75f, g2, b2, a72]; exact mkp
  · rw [f10 _ _ (by omega), f9 _ _ (by omega), f8 _ _ (by omega), f7 _ _ (by omega), f4 _ _ (by omega)]; exact pl3
end
