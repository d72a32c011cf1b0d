/-! a kind is added: a heap and all that it is led to -/
theorem hS_c {V V' : gV} {f : Nat} {j : Int} (e1 : V' (f + 1) j = V (f + 1) j) (e2 : V' (f + 2) j = V (f + 2) j) : hS V' f j = hS V f j := by
  funext t
  show bt (V' (f + 1) j) (V' (f + 2) j) t = bt (V (f + 1) j) (V (f + 2) j) t
  rw [e1, e2]
/-- what holds while the new kind grows -/
def orb (V0 V V' : gV) (f x p : Nat) (h m : Int) : Prop := V' f 5 = V f 5 ∧ (V f 0 < V' f 0 ∧ V' f 0 ≤ 300) ∧ (∀ j, 0 ≤ j → j < V f 0 → V' (f + 1) j = V (f + 1) j ∧ V' (f + 2) j = V (f + 2) j) ∧ hS V' f (V f 0) = nS V f ∧ (∀ j, V f 0 ≤ j → j < V' f 0 → SM (V0 x 1) (pMul V0 x p) (hS V' f j) ∧ zb V0 x (hS V' f j) ∧ ∃ b, 0 ≤ b ∧ b < V0 x 1 ∧ req (V0 x 1) (hS V' f j) (cj (V0 x 1) (pMul V0 x p) (iI V0 x) (nS V f) b)) ∧ (∀ i j, 0 ≤ i → i < j → j < V' f 0 → ¬ req (V0 x 1) (hS V' f i) (hS V' f j)) ∧ (∀ h' m', V f 0 ≤ h' → 0 ≤ m' → m' < V0 x 2 → (h' < h ∨ (h' = h ∧ m' < m)) → ∃ j, V f 0 ≤ j ∧ j < V' f 0 ∧ req (V0 x 1) (hS V' f j) (cj (V0 x 1) (pMul V0 x p) (iI V0 x) (hS V' f h') (gk V0 x m')))
section
variable {G : List gS} {R V V0 : gV} {T : gT} {f x p n : Nat} {C D : Int}
/-- what is led to is not among the heaps of earlier kinds -/
theorem orb_old {V' : gV} (tx : tX V0 x p) (sx : stX V0 V f x p) {h m h0 m0 : Int} (o : orb V0 V V' f x p h0 m0) (hh : V f 0 ≤ h ∧ h < V' f 0) (mm : 0 ≤ m ∧ m < V0 x 2) {U : Int → Int} (hU : req (V0 x 1) U (cj (V0 x 1) (pMul V0 x p) (iI V0 x) (hS V' f h) (gk V0 x m))) : ∀ j, 0 ≤ j → j < V f 0 → ¬ req (V0 x 1) (hS V' f j) U := by
  intro j j0 j1 e
  have g := tx.2.2.1
  have gm := tx.2.2.2.2.1 m mm.1 mm.2
  have iv := g.2.2.2.2 _ gm.1 gm.2
  obtain ⟨hp, kn, kd, cjx, rp, c00⟩ := sx
  obtain ⟨o1, o2, o3, o4, o5, o6, o7⟩ := o
  have ej : hS V' f j = hS V f j := hS_c (o3 j j0 j1).1 (o3 j j0 j1).2
  rw [ej] at e
  have sj := (hp.2.1 j j0 j1).1
  have sh := (o5 h hh.1 hh.2).1
  obtain ⟨j', l0, l1, l2⟩ := cj_all tx (fun k k0 k1 => (hp.2.1 k k0 k1).1) cjx _ iv.1 iv.2.1 j j0 j1
  have e2 : req (V0 x 1) (hS V f j') (hS V' f h) := req_t l2 (req_t (cj_congr g sj.1 (req_t e hU) _) (cj_back g sh gm))
  rw [← hS_c (o3 j' l0 l1).1 (o3 j' l0 l1).2] at e2
  exact o6 j' h l0 (by omega) hh.2 e2
theorem addKind_x (c : fc G R T f x p n C D V0) (h : fv T f V0 V) (sx : stX V0 V f x p) (sz : szX V0 V f x p) (h17 : V f 17 = sm (nS V f) (V0 x 1).toNat) (le : leX V0 V f x p) {k a : Int} (k0 : 0 ≤ k ∧ k < V f 5) (ha : 0 ≤ a ∧ a < V0 x 1) (hs : hS V f (V (f + 5) k) a = 0) (cl : clS (V0 x 1) (V (f + 6) k + 1) (nS V f) (mrX V f k a) (pMul V0 x p)) (hz : zb V0 x (nS V f)) (nw : ∀ j, 0 ≤ j → j < V f 0 → ¬ req (V0 x 1) (hS V f j) (nS V f)) : cwv 3 (fun r V' => ∃ v : Int, r = some (0, v) ∧ (TH T V' ∧ Fr (Sak f) V V' ∧ ((v = 0 ∧ tooMany (V0 x 1) (pMul V0 x p)) ∨ (v = 1 ∧ (stX V0 V' f x p ∧ szX V0 V' f x p) ∧ V' f 5 = V f 5 + 1 ∧ V f 0 < V' f 0 ∧ (∀ j, 0 ≤ j → j < V f 0 → hS V' f j = hS V f j) ∧ (∀ κ, 0 ≤ κ → κ < V f 5 → V' (f + 5) κ = V (f + 5) κ) ∧ hS V' f (V f 0) = nS V f)))) 51 [(4, (f : Int)), (0, k), (0, a), (4, (x : Int))] G R V := by
  have u := c.1
  have tx := c.2.2.2.2.2
  have N1 := tx.1
  have K1 := tx.2.1
  have g := tx.2.2.1
  have sx0 := sx
  obtain ⟨hp, kn, kd, cjx, rp, c00⟩ := sx
  have h300 := hp.1
  have kk := kd k k0.1 k0.2
  have full : V f 0 = 300 → tooMany (V0 x 1) (pMul V0 x p) := fun e => many_add (S := fun k => hS V f k) (U := nS V f) (fun k k0 k1 => (hp.2.1 k k0 (by omega)).1) (fun i j i0 ij j1 => hp.2.2 i j i0 ij (by omega)) cl.1 (fun k k0 k1 => nw k k0 (by omega))
  refine c_X3_addKind (t_X3_addKind_0 u.ly c.2.1.ly (fun _ _ => ⟨fun z => ⟨0, rfl, h.1, Fr_0, Or.inl ⟨rfl, full (by omega)⟩⟩, fun z => ?_⟩))
  refine cwI_u (by omega) (addNew_x u h.1) (fun v V1 hv => ?_)
  obtain ⟨th1, f1, hv⟩ := hv
  have v01 : v = 0 ∨ v = 1 := by
    rcases hv with w | w
    · exact Or.inl w.1
    · exact Or.inr w.1
  have fl : v = 0 → tooMany (V0 x 1) (pMul V0 x p) := fun v0 => by
    rcases hv with w | w
    · exact full w.2.2
    · exact absurd w.1 (by omega)
  refine ⟨by omega, fun v0 => ?_, fun v0 => ⟨0, rfl, th1, Fr_m f1 (by omega), Or.inl ⟨rfl, fl v0⟩⟩⟩
  obtain ⟨hl, n1, n2, n3, n4, n5, n6, n7⟩ : V f 0 < 300 ∧ V1 f 0 = V f 0 + 1 ∧ (∀ k, k ≠ V f 0 → V1 (f + 1) k = V (f + 1) k ∧ V1 (f + 2) k = V (f + 2) k) ∧ V1 (f + 1) (V f 0) = V f 15 ∧ V1 (f + 2) (V f 0) = V f 16 ∧ V1 (f + 3) (V f 0) = V f 17 ∧ V1 (f + 4) (V f 0) = V f 5 ∧ ∀ k, k ≠ V f 0 → V1 (f + 3) k = V (f + 3) k ∧ V1 (f + 4) k = V (f + 4) k := by
    rcases hv with w | w
    · exact absurd w.1 v0
    · exact w.2
  have e5 : V1 f 5 = V f 5 := f1 _ _ (by omega)
  have e6 : ∀ i, V1 (f + 6) i = V (f + 6) i := fun i => f1 _ _ (by omega)
  have e7 : ∀ i, V1 (f + 7) i = V (f + 7) i := fun i => f1 _ _ (by omega)
  have e55 : ∀ i, V1 (f + 5) i = V (f + 5) i := fun i => f1 _ _ (by omega)
  have mk6 := kk.2.2.1
  have mk0 := kk.2.1
  refine cw0_u (by omega) (keepMakersF_x u th1 (k := k) (a := a) (by omega) (by omega) (by rw [e6]; exact ⟨mk0, mk6⟩) (by omega)) (fun V2 h2 => ?_)
  obtain ⟨th2, f2, m1, m2, m3, m4⟩ := h2
  rw [e5] at m1 m2 m3 m4
  rw [e6] at m1 m2
  have em : ∀ m, mrX V1 f k a m = mrX V f k a m := fun m => by
    show (if m = V1 (f + 6) k then a else V1 (f + 7) (k * 8 + m)) = if m = V (f + 6) k then a else V (f + 7) (k * 8 + m)
    rw [e6, e7]
  have q5 : V2 f 5 = V f 5 := by rw [f2 _ _ (by omega)]; exact e5
  refine fun _ => ⟨by omega, ?_⟩
  rw [q5]
  generalize hV3 : wr V2 (f + 5) (V f 5) (V f 0) = V3
  have g0 : V3 f 0 = V f 0 + 1 := by rw [← hV3, wr_a (by omega), f2 _ _ (by omega)]; exact n1
  have g5 : V3 f 5 = V f 5 := by rw [← hV3, wr_a (by omega)]; exact q5
  have c1 : ∀ j, V3 (f + 1) j = V1 (f + 1) j := fun j => by rw [← hV3, wr_a (by omega)]; exact f2 _ _ (by omega)
  have c2 : ∀ j, V3 (f + 2) j = V1 (f + 2) j := fun j => by rw [← hV3, wr_a (by omega)]; exact f2 _ _ (by omega)
  have c3 : ∀ j, V3 (f + 3) j = V1 (f + 3) j := fun j => by rw [← hV3, wr_a (by omega)]; exact f2 _ _ (by omega)
  have c4 : ∀ j, V3 (f + 4) j = V1 (f + 4) j := fun j => by rw [← hV3, wr_a (by omega)]; exact f2 _ _ (by omega)
  have zo3 : oz V V3 f := ⟨fun j j0 j1 => by rw [c3, c4]; exact n7 j (by omega), fun j j0 j1 => by
    have ej : j = V f 0 := by omega
    rw [ej, c3, c4]; exact ⟨n5, n6⟩⟩
  have c5 : ∀ κ, κ ≠ V f 5 → V3 (f + 5) κ = V (f + 5) κ := fun κ hκ => by rw [← hV3, wr_i hκ, f2 _ _ (by omega)]; exact e55 κ
  have c55 : V3 (f + 5) (V f 5) = V f 0 := by rw [← hV3]; exact wr_same _ _ _ _
  have c6 : ∀ κ, κ ≠ V f 5 → V3 (f + 6) κ = V (f + 6) κ := fun κ hκ => by rw [← hV3, wr_a (by omega), m3 κ hκ]; exact e6 κ
  have c66 : V3 (f + 6) (V f 5) = V (f + 6) k + 1 := by rw [← hV3, wr_a (by omega)]; exact m1
  have c7 : ∀ κ m, κ ≠ V f 5 → 0 ≤ m → m < 8 → V3 (f + 7) (κ * 8 + m) = V (f + 7) (κ * 8 + m) := fun κ m hκ m0 mm1 => by rw [← hV3, wr_a (by omega), m4 κ m hκ m0 mm1]; exact e7 _
  have c77 : ∀ m, 0 ≤ m → m < V (f + 6) k + 1 → V3 (f + 7) (V f 5 * 8 + m) = mrX V f k a m := fun m m0 mm1 => by rw [← hV3, wr_a (by omega), m2 m m0 mm1]; exact em m
  have th3 : TH T V3 := by rw [← hV3]; exact TH_wr th2 ((u.kh _ _).mpr (by omega))
  have fr3 : Fr (Sak f) V V3 := by rw [← hV3]; exact Fr_w (Fr_t (Fr_m f1 (by omega)) (Fr_m f2 (by omega))) (by omega)
  have hU : hS V3 f (V f 0) = nS V f := by
    funext t
    show bt (V3 (f + 1) (V f 0)) (V3 (f + 2) (V f 0)) t = bt (V f 15) (V f 16) t
    rw [c1, c2, n3, n4]
  have o3 : orb V0 V V3 f x p (V f 0) 0 := by
    refine ⟨g5, by omega, fun j j0 j1 => by rw [c1, c2]; exact n2 j (by omega), hU, fun j j0 j1 => ?_, fun i j i0 ij j1 => ?_, fun h' m' q0 q1 q2 q3 => by omega⟩
    · have : j = V f 0 := by omega
      rw [this, hU]
      exact ⟨cl.1, hz, 0, by omega, by omega, req_s (cj_0 g cl.1.1)⟩
    · have ei : hS V3 f i = hS V f i := hS_c (by rw [c1]; exact (n2 i (by omega)).1) (by rw [c2]; exact (n2 i (by omega)).2)
      rw [ei]
      by_cases y : j = V f 0
      · rw [y, hU]; exact nw i i0 (by omega)
      · have ej : hS V3 f j = hS V f j := hS_c (by rw [c1]; exact (n2 j y).1) (by rw [c2]; exact (n2 j y).2)
        rw [ej]; exact hp.2.2 i j i0 ij (by omega)
  clear hV3 m1 m2 m3 m4 th2 f2 q5 th1 f1 hv
  have fin : ∀ V4 : gV, TH T V4 → Fr (Sak f) V V4 → orb V0 V V4 f x p (V4 f 0) 0 → oz V V4 f → (∀ i, V4 (f + 5) i = V3 (f + 5) i) → (∀ i, V4 (f + 6) i = V3 (f + 6) i) → (∀ i, V4 (f + 7) i = V3 (f + 7) i) → TH T (wr V4 f 5 (V4 f 5 + 1)) ∧ Fr (Sak f) V (wr V4 f 5 (V4 f 5 + 1)) ∧ ((stX V0 (wr V4 f 5 (V4 f 5 + 1)) f x p ∧ szX V0 (wr V4 f 5 (V4 f 5 + 1)) f x p) ∧ wr V4 f 5 (V4 f 5 + 1) f 5 = V f 5 + 1 ∧ V f 0 < wr V4 f 5 (V4 f 5 + 1) f 0 ∧ (∀ j, 0 ≤ j → j < V f 0 → hS (wr V4 f 5 (V4 f 5 + 1)) f j = hS V f j) ∧ (∀ κ, 0 ≤ κ → κ < V f 5 → wr V4 f 5 (V4 f 5 + 1) (f + 5) κ = V (f + 5) κ) ∧ hS (wr V4 f 5 (V4 f 5 + 1)) f (V f 0) = nS V f) := by
    intro V4 th4 fr4 o zo d5 d6 d7
    have oo := o
    obtain ⟨o1, o2, o3, o4, o5, o6, o7⟩ := o
    generalize hV5 : wr V4 f 5 (V4 f 5 + 1) = V5
    have x0 : V5 f 0 = V4 f 0 := by rw [← hV5, wr_i (by omega)]
    have x5 : V5 f 5 = V f 5 + 1 := by rw [← hV5, wr_same, o1]
    have xc : ∀ c i, c ≠ f → V5 c i = V4 c i := fun c i hc => by rw [← hV5, wr_a hc]
    have xh : ∀ j, hS V5 f j = hS V4 f j := fun j => hS_c (xc _ _ (by omega)) (xc _ _ (by omega))
    have xo : ∀ j, 0 ≤ j → j < V f 0 → hS V5 f j = hS V f j := fun j j0 j1 => by rw [xh, hS_c (o3 j j0 j1).1 (o3 j j0 j1).2]
    have zz : szX V0 V5 f x p := by
      have e3 : ∀ j, V5 (f + 3) j = V4 (f + 3) j := fun j => xc _ _ (by omega)
      have e4 : ∀ j, V5 (f + 4) j = V4 (f + 4) j := fun j => xc _ _ (by omega)
      have sS : ∀ k, 0 ≤ k → k < V5 f 0 → SM (V0 x 1) (pMul V0 x p) (hS V5 f k) := fun k k0 k1 => by
        by_cases y : k < V f 0
        · rw [xo k k0 y]; exact (hp.2.1 k k0 y).1
        · rw [xh]; exact (o5 k (by omega) (by omega)).1
      have nCJ : ∀ k, V f 0 ≤ k → k < V5 f 0 → CJ (V0 x 1) (pMul V0 x p) (iI V0 x) (nS V f) (hS V5 f k) := fun k k0 k1 => by
        obtain ⟨_, _, b, b0, b1, b2⟩ := o5 k k0 (by omega)
        exact ⟨b, b0, b1, by rw [xh]; exact b2⟩
      have mix : ∀ i j, 0 ≤ i → i < V f 0 → V f 0 ≤ j → j < V5 f 0 → ¬ CJ (V0 x 1) (pMul V0 x p) (iI V0 x) (hS V5 f i) (hS V5 f j) := by
        rintro i j i0 i1 j0 j1 ⟨b, b0, b1, b2⟩
        obtain ⟨i', l0, l1, l2⟩ := cj_all tx (fun k k0 k1 => (hp.2.1 k k0 k1).1) cjx b b0 b1 i i0 i1
        rw [xo i i0 i1] at b2
        have e2 : req (V0 x 1) (hS V5 f i') (hS V5 f j) := by rw [xo i' l0 l1]; exact req_t l2 (req_s b2)
        rw [xh, xh] at e2
        exact o6 i' j l0 (by omega) (by omega) e2
      refine ⟨fun k k0 k1 => ?_, fun k k0 k1 => ?_, fun i j i0 i1 j0 j1 => ?_⟩
      · by_cases y : k < V f 0
        · rw [e3, (zo.1 k k0 y).1, xo k k0 y]; exact sz.1 k k0 y
        · obtain ⟨b, b0, b1, b2⟩ := nCJ k (by omega) k1
          rw [e3, (zo.2 k (by omega) (by omega)).1, h17, req_sm b2]
          exact (cj_SM g cl.1 ⟨b0, b1⟩).2.symm
      · rw [e4, x5]
        by_cases y : k < V f 0
        · rw [(zo.1 k k0 y).2]; have := sz.2.1 k k0 y; omega
        · rw [(zo.2 k (by omega) (by omega)).2]; omega
      · rw [e4, e4]
        by_cases y1 : i < V f 0
        · by_cases y2 : j < V f 0
          · rw [(zo.1 i i0 y1).2, (zo.1 j j0 y2).2, xo i i0 y1, xo j j0 y2]; exact sz.2.2 i j i0 y1 j0 y2
          · rw [(zo.1 i i0 y1).2, (zo.2 j (by omega) (by omega)).2]
            have := sz.2.1 i i0 y1
            exact ⟨fun q => by omega, fun q => absurd q (mix i j i0 y1 (by omega) j1)⟩
        · by_cases y2 : j < V f 0
          · rw [(zo.2 i (by omega) (by omega)).2, (zo.1 j j0 y2).2]
            have := sz.2.1 j j0 y2
            exact ⟨fun q => by omega, fun q => absurd (CJ_symm g (sS i i0 i1) (sS j j0 j1) q) (mix j i j0 y2 (by omega) i1)⟩
          · rw [(zo.2 i (by omega) (by omega)).2, (zo.2 j (by omega) (by omega)).2]
            exact ⟨fun _ => CJ_trans g cl.1 (CJ_symm g cl.1 (sS i i0 i1) (nCJ i (by omega) i1)) (nCJ j (by omega) j1), fun _ => rfl⟩
    refine ⟨by rw [← hV5]; exact TH_wr th4 ((u.kd _).mpr (by omega)), by rw [← hV5]; exact Fr_w fr4 (by omega), ⟨⟨⟨by omega, fun k k0 k1 => ?_, fun i j i0 ij j1 => ?_⟩, by omega, fun κ q0 q1 => ?_, fun k m k0 k1 m0 m1 => ?_, fun k k0 k1 => ?_, ?_⟩, zz⟩, x5, by omega, xo, fun κ q0 q1 => by rw [xc _ _ (by omega), d5, c5 κ (by omega)], by rw [xh]; exact o4⟩
    · by_cases y : k < V f 0
      · rw [xo k k0 y]; exact hp.2.1 k k0 y
      · rw [xh]
        have w := o5 k (by omega) (by omega)
        exact ⟨w.1, w.2.1⟩
    · rw [xh, xh]; exact o6 i j i0 ij (by omega)
    · by_cases y : κ = V f 5
      · subst y
        have nh := fh_new g (by omega) kk.2 ha hs (mr' := mrX V f k a) (fun m m0 m1 => mrX_f (by omega)) (mrX_t rfl) cl
        have ek : V5 (f + 5) (V f 5) = V f 0 := by rw [xc _ _ (by omega), d5]; exact c55
        refine ⟨by rw [ek]; omega, ?_⟩
        rw [ek, xh, o4, xc _ _ (by omega), d6, c66]
        exact hpI_congr g (fun _ _ _ => rfl) rfl rfl (fun m m0 m1 => by rw [xc _ _ (by omega), d7]; exact (c77 m m0 m1).symm) nh.1
      · have q := kd κ q0 (by omega)
        have ek : V5 (f + 5) κ = V (f + 5) κ := by rw [xc _ _ (by omega), d5]; exact c5 κ y
        refine ⟨by rw [ek]; omega, ?_⟩
        rw [ek, xo _ q.1.1 q.1.2, xc _ _ (by omega), d6, c6 κ y]
        exact hpI_congr g (fun _ _ _ => rfl) rfl rfl (fun m m0 m1 => by have := q.2.2.1; rw [xc _ _ (by omega), d7]; exact (c7 κ m y m0 (by omega)).symm) q.2
    · by_cases y : k < V f 0
      · obtain ⟨j, j0, j1, j2⟩ := cjx k m k0 y m0 m1
        exact ⟨j, j0, by omega, by rw [xo j j0 j1, xo k k0 y]; exact j2⟩
      · obtain ⟨j, j0, j1, j2⟩ := o7 k m (by omega) m0 m1 (Or.inl (by omega))
        exact ⟨j, by omega, by omega, by rw [xh, xh]; exact j2⟩
    · by_cases y : k < V f 0
      · obtain ⟨κ, b, w1, w2, w3, w4, w5⟩ := rp k k0 y
        have q := kd κ w1 w2
        refine ⟨κ, b, w1, by omega, w3, w4, ?_⟩
        rw [xc _ _ (by omega), d5, c5 κ (by omega), xo _ q.1.1 q.1.2, xo k k0 y]
        exact w5
      · obtain ⟨sk, zk, b, b0, b1, b2⟩ := o5 k (by omega) (by omega)
        have iv := g.2.2.2.2 b b0 b1
        refine ⟨V f 5, iI V0 x b, by omega, by omega, iv.1, iv.2.1, ?_⟩
        rw [xc _ _ (by omega), d5, c55, xh, xh, o4]
        exact req_t (req_s (cj_back g cl.1 ⟨b0, b1⟩)) (cj_congr g (cj_SM g cl.1 ⟨b0, b1⟩).1.1 (req_s b2) _)
    · rw [xo 0 (by omega) (by omega)]; exact c00
  have le3 : ∀ V4 : gV, Fr (Sak f) V V4 → leX V0 V4 f x p := fun V4 fr m t m0 m1 t0 t1 => by rw [fr _ _ (by omega)]; exact le m t m0 m1 t0 t1
  refine loop1 (f := fun h => [some (4, (f : Int)), none, none, some (4, (x : Int)), some (0, V f 0), some (0, h)]) (Inv := fun h V4 => TH T V4 ∧ Fr (Sak f) V V4 ∧ (V f 0 ≤ h ∧ h ≤ V4 f 0) ∧ orb V0 V V4 f x p h 0 ∧ oz V V4 f ∧ (∀ i, V4 (f + 5) i = V3 (f + 5) i) ∧ (∀ i, V4 (f + 6) i = V3 (f + 6) i) ∧ (∀ i, V4 (f + 7) i = V3 (f + 7) i)) (μ := fun h _ => (301 - h).toNat) (fun hh V4 hi ih => ?_) (V f 0) V3 ⟨th3, fr3, by omega, o3, zo3, fun _ => rfl, fun _ => rfl, fun _ => rfl⟩
  obtain ⟨th4, fr4, h0, o, zo, d5, d6, d7⟩ := hi
  have o2 := o.2.1
  have o1 := o.1
  have post : hh = V4 f 0 → ∃ v : Int, some ((0 : Nat), (1 : Int)) = some (0, v) ∧ (TH T (wr V4 f 5 (V4 f 5 + 1)) ∧ Fr (Sak f) V (wr V4 f 5 (V4 f 5 + 1)) ∧ ((v = 0 ∧ tooMany (V0 x 1) (pMul V0 x p)) ∨ (v = 1 ∧ (stX V0 (wr V4 f 5 (V4 f 5 + 1)) f x p ∧ szX V0 (wr V4 f 5 (V4 f 5 + 1)) f x p) ∧ wr V4 f 5 (V4 f 5 + 1) f 5 = V f 5 + 1 ∧ V f 0 < wr V4 f 5 (V4 f 5 + 1) f 0 ∧ (∀ j, 0 ≤ j → j < V f 0 → hS (wr V4 f 5 (V4 f 5 + 1)) f j = hS V f j) ∧ (∀ κ, 0 ≤ κ → κ < V f 5 → wr V4 f 5 (V4 f 5 + 1) (f + 5) κ = V (f + 5) κ) ∧ hS (wr V4 f 5 (V4 f 5 + 1)) f (V f 0) = nS V f))) := by
    intro eh
    rw [eh] at o
    have w := fin V4 th4 fr4 o zo d5 d6 d7
    exact ⟨1, rfl, w.1, w.2.1, Or.inr ⟨rfl, w.2.2⟩⟩
  refine t_X3_addKind_46 u.ly c.2.1.ly (fun _ => ⟨by omega, fun z1 _ => ⟨by omega, post (by omega)⟩, fun z1 => ⟨fun z2 => absurd z2 (by omega), fun _ => ?_⟩⟩)
  refine loop1 (f := fun m => [some (4, (f : Int)), none, none, some (4, (x : Int)), some (0, V f 0), some (0, hh), some (0, m)]) (Inv := fun m V4 => TH T V4 ∧ Fr (Sak f) V V4 ∧ hh < V4 f 0 ∧ (0 ≤ m ∧ m ≤ 4) ∧ orb V0 V V4 f x p hh m ∧ oz V V4 f ∧ (∀ i, V4 (f + 5) i = V3 (f + 5) i) ∧ (∀ i, V4 (f + 6) i = V3 (f + 6) i) ∧ (∀ i, V4 (f + 7) i = V3 (f + 7) i)) (μ := fun m _ => (4 - m).toNat) (fun m V4 hi ih2 => ?_) 0 V4 ⟨th4, fr4, z1, by omega, o, zo, d5, d6, d7⟩
  clear th4 fr4 o d5 d6 d7 post z1 o1 o2 zo
  obtain ⟨th4, fr4, z1, m0, o, zo, d5, d6, d7⟩ := hi
  have o1 := o.1
  have o2 := o.2.1
  have h4 : fv T f V0 V4 := fv_m h th4 fr4 (by omega)
  obtain ⟨x1, x2, _, _, _, _⟩ := fv_x c h4
  refine t_X3_addKind_66 u.ly c.2.1.ly (fun _ => ⟨by omega, fun z2 => ⟨by omega, ih _ _ ⟨th4, fr4, by omega, ⟨o.1, o.2.1, o.2.2.1, o.2.2.2.1, o.2.2.2.2.1, o.2.2.2.2.2.1, fun h' m' q0 q1 q2 q3 => o.2.2.2.2.2.2 h' m' q0 q1 q2 (by omega)⟩, zo, d5, d6, d7⟩ (by omega)⟩, fun z2 => ?_⟩)
  rw [x2] at z2
  refine cw0_u (by omega) (leadToNew_x c h4 (le3 V4 fr4) (k := hh) (m := m) (by omega) ⟨m0.1, z2⟩) (fun V5 h5 => ?_)
  obtain ⟨th5, f5, nb⟩ := h5
  have gm := tx.2.2.2.2.1 m m0.1 z2
  have sh := (o.2.2.2.2.1 hh h0.1 z1).1
  have cS := cj_SM g sh gm
  have nc : req (V0 x 1) (nS V5 f) (cj (V0 x 1) (pMul V0 x p) (iI V0 x) (hS V4 f hh) (gk V0 x m)) := by
    intro t t0 t1
    have i1 := nb t t0 (by omega)
    have i2 := cj_in g (S := hS V4 f hh) (g := gk V0 x m) (t := t)
    rcases bt_01 (V5 f 15) (V5 f 16) t with w | w
    · rcases cS.1.1 t t0 t1 with w2 | w2
      · rw [w2]; exact w
      · exfalso
        have w3 : bt (V5 f 15) (V5 f 16) t = 1 := i1.mpr (i2.mp w2)
        omega
    · rw [i2.mpr (i1.mp w)]; exact w
  have nz : zb V0 x (nS V5 f) := by
    intro t t0 t1
    rcases bt_01 (V5 f 15) (V5 f 16) t with w | w
    · exact w
    · exfalso
      obtain ⟨s, s0, s1, s2, s3⟩ := (nb t (by omega) t1).mp w
      have iv := g.2.2.2.2 _ gm.1 gm.2
      have r1 := g.2.1 _ s iv.1 iv.2.1 s0 s1
      have r2 := g.2.1 _ _ r1.1 r1.2 gm.1 gm.2
      have s4 : pMul V0 x p (pMul V0 x p ((fun t => V0 (x + 2) t) (V0 (x + 4) (m * 120))) s) (V0 (x + 4) (m * 120)) = t := s3
      omega
  have nSM : SM (V0 x 1) (pMul V0 x p) (nS V5 f) := SM_congr g (req_s nc) cS.1
  have k51 : ∀ j, V5 (f + 1) j = V4 (f + 1) j := fun j => f5 _ _ (by omega)
  have k52 : ∀ j, V5 (f + 2) j = V4 (f + 2) j := fun j => f5 _ _ (by omega)
  have k5h : ∀ j, hS V5 f j = hS V4 f j := fun j => hS_c (k51 j) (k52 j)
  have k50 : V5 f 0 = V4 f 0 := f5 _ _ (by omega)
  have k55 : V5 f 5 = V4 f 5 := f5 _ _ (by omega)
  have fr5 : Fr (Sak f) V V5 := Fr_t fr4 (Fr_m f5 (by omega))
  have k53 : ∀ j, V5 (f + 3) j = V4 (f + 3) j := fun j => f5 _ _ (by omega)
  have k54 : ∀ j, V5 (f + 4) j = V4 (f + 4) j := fun j => f5 _ _ (by omega)
  have zo5 : oz V V5 f := ⟨fun j j0 j1 => by rw [k53, k54]; exact zo.1 j j0 j1, fun j j0 j1 => by rw [k53, k54]; exact zo.2 j j0 (by omega)⟩
  have o5 : ∀ m', (∀ h' m'', V f 0 ≤ h' → 0 ≤ m'' → m'' < V0 x 2 → (h' < hh ∨ (h' = hh ∧ m'' < m')) → ∃ j, V f 0 ≤ j ∧ j < V5 f 0 ∧ req (V0 x 1) (hS V5 f j) (cj (V0 x 1) (pMul V0 x p) (iI V0 x) (hS V5 f h') (gk V0 x m''))) → orb V0 V V5 f x p hh m' := by
    intro m' dn
    refine ⟨by omega, by omega, fun j j0 j1 => by rw [k51, k52]; exact o.2.2.1 j j0 j1, by rw [k5h]; exact o.2.2.2.1, fun j j0 j1 => by rw [k5h]; exact o.2.2.2.2.1 j j0 (by omega), fun i j i0 ij j1 => by rw [k5h, k5h]; exact o.2.2.2.2.2.1 i j i0 ij (by omega), dn⟩
  have dn4 : ∀ h' m'', V f 0 ≤ h' → 0 ≤ m'' → m'' < V0 x 2 → (h' < hh ∨ (h' = hh ∧ m'' < m)) → ∃ j, V f 0 ≤ j ∧ j < V5 f 0 ∧ req (V0 x 1) (hS V5 f j) (cj (V0 x 1) (pMul V0 x p) (iI V0 x) (hS V5 f h') (gk V0 x m'')) := fun h' m'' q0 q1 q2 q3 => by
    obtain ⟨j, j0, j1, j2⟩ := o.2.2.2.2.2.2 h' m'' q0 q1 q2 q3
    exact ⟨j, j0, by omega, by rw [k5h, k5h]; exact j2⟩
  have od := orb_old tx sx0 o ⟨h0.1, z1⟩ ⟨m0.1, z2⟩ nc
  intro i1 i2
  refine cw_vr (fun vr => cwI_u (by omega) (indexFrom_y (V0 := V0) (x := x) u th5 vr (s := V f 0) (by omega) (fun j j0 j1 => by rw [k5h]; exact (o.2.2.2.2.1 j j0 (by omega)).2.1) nz i1 i2) (fun v V6 hv => ?_))
  obtain ⟨eV, hv⟩ := hv
  subst eV
  have v32 : -1 ≤ v ∧ v < 300 := by
    rcases hv with w | w
    · have := w.1; omega
    · have := w.2.1; omega
  refine ⟨by omega, fun zv => ⟨by omega, ih2 _ _ ⟨th5, fr5, by omega, by omega, o5 (m + 1) (fun h' m'' q0 q1 q2 q3 => ?_), zo5, fun i => by rw [f5 _ _ (by omega)]; exact d5 i, fun i => by rw [f5 _ _ (by omega)]; exact d6 i, fun i => by rw [f5 _ _ (by omega)]; exact d7 i⟩ (by omega)⟩, fun zv => ?_⟩
  · by_cases y : h' = hh ∧ m'' = m
    · rcases hv with w | w
      · exact absurd w.1 zv
      · refine ⟨v, w.1, w.2.1, ?_⟩
        rw [y.1, y.2, k5h hh]
        exact req_t w.2.2 nc
    · exact dn4 h' m'' q0 q1 q2 (by omega)
  have nf : ∀ k, V f 0 ≤ k → k < V6 f 0 → ¬ req (V0 x 1) (hS V6 f k) (nS V6 f) := by
    rcases hv with w | w
    · exact w.2
    · have := w.1; omega
  have alln : ∀ k, 0 ≤ k → k < V6 f 0 → ¬ req (V0 x 1) (hS V6 f k) (nS V6 f) := fun k k0 k1 => by
    by_cases y : k < V f 0
    · rw [k5h]; exact od k k0 y
    · exact nf k (by omega) k1
  have allS : ∀ k, 0 ≤ k → k < V6 f 0 → SM (V0 x 1) (pMul V0 x p) (hS V6 f k) := fun k k0 k1 => by
    rw [k5h]
    by_cases y : k < V f 0
    · rw [hS_c (o.2.2.1 k k0 y).1 (o.2.2.1 k k0 y).2]; exact (hp.2.1 k k0 y).1
    · exact (o.2.2.2.2.1 k (by omega) (by omega)).1
  refine cwI_u (by omega) (addNew_x u th5) (fun w V7 h7 => ?_)
  obtain ⟨th7, f7, h7⟩ := h7
  have fr7 : Fr (Sak f) V V7 := Fr_t fr5 (Fr_m f7 (by omega))
  have w01 : w = 0 ∨ w = 1 := by
    rcases h7 with q | q
    · exact Or.inl q.1
    · exact Or.inr q.1
  have fl7 : w = 0 → tooMany (V0 x 1) (pMul V0 x p) := fun zw => by
    rcases h7 with q | q
    · have e3 := q.2.2
      exact many_add (S := fun k => hS V6 f k) (U := nS V6 f) (fun k k0 k1 => allS k k0 (by omega)) (fun i j i0 ij j1 => by rw [k5h, k5h]; exact o.2.2.2.2.2.1 i j i0 ij (by omega)) nSM (fun k k0 k1 => alln k k0 (by omega))
    · exact absurd q.1 (by omega)
  refine ⟨by omega, fun zw => ?_, fun zw => ⟨0, rfl, th7, fr7, Or.inl ⟨rfl, fl7 zw⟩⟩⟩
  obtain ⟨r0, r1, r2, r3, r4, r5, r6, r7⟩ : V6 f 0 < 300 ∧ V7 f 0 = V6 f 0 + 1 ∧ (∀ k, k ≠ V6 f 0 → V7 (f + 1) k = V6 (f + 1) k ∧ V7 (f + 2) k = V6 (f + 2) k) ∧ V7 (f + 1) (V6 f 0) = V6 f 15 ∧ V7 (f + 2) (V6 f 0) = V6 f 16 ∧ V7 (f + 3) (V6 f 0) = V6 f 17 ∧ V7 (f + 4) (V6 f 0) = V6 f 5 ∧ ∀ k, k ≠ V6 f 0 → V7 (f + 3) k = V6 (f + 3) k ∧ V7 (f + 4) k = V6 (f + 4) k := by
    rcases h7 with q | q
    · exact absurd q.1 zw
    · exact q.2
  have s7 : ∀ k, k ≠ V6 f 0 → hS V7 f k = hS V4 f k := fun k hk => by rw [hS_c (r2 k hk).1 (r2 k hk).2]; exact k5h k
  have s77 : hS V7 f (V6 f 0) = nS V6 f := by
    funext t
    show bt (V7 (f + 1) (V6 f 0)) (V7 (f + 2) (V6 f 0)) t = bt (V6 f 15) (V6 f 16) t
    rw [r3, r4]
  have e75 : V7 f 5 = V6 f 5 := f7 _ _ (by omega)
  have e617 : V6 f 17 = V f 17 := fr5 _ _ (by omega)
  have zo7 : oz V V7 f := ⟨fun j j0 j1 => by rw [(r7 j (by omega)).1, (r7 j (by omega)).2]; exact zo5.1 j j0 j1, fun j j0 j1 => by
    by_cases y : j = V6 f 0
    · rw [y, r5, r6]; exact ⟨e617, by omega⟩
    · rw [(r7 j y).1, (r7 j y).2]; exact zo5.2 j j0 (by omega)⟩
  refine ⟨by omega, ih2 _ _ ⟨th7, fr7, by omega, by omega, ?_, zo7, fun i => by rw [f7 _ _ (by omega), f5 _ _ (by omega)]; exact d5 i, fun i => by rw [f7 _ _ (by omega), f5 _ _ (by omega)]; exact d6 i, fun i => by rw [f7 _ _ (by omega), f5 _ _ (by omega)]; exact d7 i⟩ (by omega)⟩
  refine ⟨by omega, by omega, fun j j0 j1 => ?_, ?_, fun j j0 j1 => ?_, fun i j i0 ij j1 => ?_, fun h' m'' q0 q1 q2 q3 => ?_⟩
  · have := r2 j (by omega)
    rw [this.1, this.2, k51, k52]; exact o.2.2.1 j j0 j1
  · rw [s7 _ (by omega)]; exact o.2.2.2.1
  · by_cases y : j = V6 f 0
    · rw [y, s77]
      refine ⟨nSM, nz, ?_⟩
      obtain ⟨_, _, b, b0, b1, b2⟩ := o.2.2.2.2.1 hh h0.1 z1
      have mr := g.2.1 b _ b0 b1 gm.1 gm.2
      exact ⟨_, mr.1, mr.2, req_t nc (req_t (cj_congr g sh.1 b2 _) (cj_cj g ⟨b0, b1⟩ gm))⟩
    · rw [s7 j y]; exact o.2.2.2.2.1 j j0 (by omega)
  · rw [s7 i (by omega)]
    by_cases y : j = V6 f 0
    · rw [y, s77, ← k5h]; exact alln i i0 (by omega)
    · rw [s7 j y]; exact o.2.2.2.2.2.1 i j i0 ij (by omega)
  · have hne : h' ≠ V6 f 0 := by omega
    rw [s7 h' hne]
    by_cases y : h' = hh ∧ m'' = m
    · exact ⟨V6 f 0, by omega, by omega, by rw [s77, y.1, y.2]; exact nc⟩
    · obtain ⟨j, j0, j1, j2⟩ := o.2.2.2.2.2.2 h' m'' q0 q1 q2 (by omega)
      exact ⟨j, j0, by omega, by rw [s7 j (by omega)]; exact j2⟩
end
