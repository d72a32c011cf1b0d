section
variable {d : Nat} {G : List gS} {R V : gV} {M : Nat}
def s2 (V0 V : gV) (M : Nat) : Prop := stF V0 V M ∧ hpsP (V0 M 5) (V0 M 12) (mMul V0 M) (mHas V M) (fun k => V (M + 10) k) ∧ (∀ h g, 0 ≤ h → h < V0 M 12 → 0 ≤ g → g < V0 M 5 → ldP V0 V M h g) ∧ srtH V M (V0 M 5) (V0 M 12)
theorem s2_wr {V0 : gV} (h : s2 V0 V M) {a : Nat} {i v : Int} (ha : a = M + 14 ∨ a = M + 15 ∨ a = M + 16 ∨ (a = M ∧ i = 13)) : s2 V0 (wr V a i v) M := by
  have w : ∀ b x, b ≠ M + 14 → b ≠ M + 15 → b ≠ M + 16 → ¬ (b = M ∧ x = 13) → wr V a i v b x = V b x := fun b x q1 q2 q3 q4 => wr_ne (by omega)
  have eS : mHas (wr V a i v) M = mHas V M := funext (fun k => funext (fun t => w _ _ (by omega) (by omega) (by omega) (by omega)))
  obtain ⟨h1, h2, h3, h4⟩ := h
  refine ⟨fun b x q1 q2 q3 q4 q5 q6 q7 q8 q9 => by rw [w b x q4 q5 q6 q9]; exact h1 b x q1 q2 q3 q4 q5 q6 q7 q8 q9, ?_, ?_, by unfold srtH; rw [eS]; exact h4⟩
  · rw [eS]
    have : (fun k => wr V a i v (M + 10) k) = fun k => V (M + 10) k := funext (fun k => w _ _ (by omega) (by omega) (by omega) (by omega))
    rw [this]; exact h2
  · intro h g a0 a1 b0 b1
    unfold ldP
    rw [eS, w _ _ (by omega) (by omega) (by omega) (by omega)]
    exact h3 h g a0 a1 b0 b1
theorem settles_3 (ly : lay8 G R M) {V0 : gV} (gt : GT (V0 M 5) (mMul V0 M) (mInv V0 M)) (hN : V0 M 5 ≤ 120) {S : Int → Int → Int} : ∀ h V, (0 ≤ h ∧ h ≤ V0 M 12 ∧ s2 V0 V M ∧ mHas V M = S ∧ ncP (fun a b => CJ (V0 M 5) (mMul V0 M) (mInv V0 M) (S a) (S b)) h (V M 13) (fun j => V (M + 14) j) (fun c => V (M + 15) c) (fun c => V (M + 16) c)) → wpv K_X8_settles 3 (fun r V' => r = none ∧ stP V0 V' M) 118 [some (4, (M : Int)), some (0, h)] [] G R V := by
  have N1 := gt.1
  refine loop1 (f := fun x => [some (4, (M : Int)), some (0, x)]) _ (fun x V => (V0 M 12 - x).toNat) (fun h V hx ih => ?_)
  obtain ⟨h0, h1, s, eS, nc⟩ := hx
  have hp := s.2.1
  have ldd := s.2.2.1
  rw [eS] at hp
  have H1 := hp.1
  have H3 := hp.2.1
  have sS : ∀ k, 0 ≤ k → k < V0 M 12 → SM (V0 M 5) (mMul V0 M) (S k) := fun k k0 k1 => (hp.2.2.1 k k0 k1).1
  have e12 : V M 12 = V0 M 12 := s.1 _ _ (by omega) (by omega) (by omega) (by omega) (by omega) (by omega) (by omega) (by omega) (by omega)
  have e5 : V M 5 = V0 M 5 := s.1 _ _ (by omega) (by omega) (by omega) (by omega) (by omega) (by omega) (by omega) (by omega) (by omega)
  have K1 := nc.1
  refine t_X8_settles_118 ly (fun _ => ⟨by omega, fun z => ⟨by omega, ?_⟩, fun z => ?_⟩)
  · have eh : h = V0 M 12 := by omega
    rw [eh] at nc
    have cl := nc_cl gt sS H1 nc
    refine settles_4 ly gt hN _ V ⟨by omega, by omega, ⟨s.1, s.2.1, s.2.2.1, cl.1.1, cl.1.2, fun h' a0 a1 => (cl.2.1 h' a0 a1).1, fun c a0 a1 => (cl.2.2.1 c a0 a1).1, cl_is gt sS hp.2.2.2.1 cl, s.2.2.2, by rw [eS]; exact cl⟩, fun h' a b => by omega⟩
  rw [e12] at z
  refine pool2 (f := fun x y => [some (4, (M : Int)), some (0, h), some (0, x), some (0, y)]) (fun x g => 0 ≤ x ∧ x ≤ h ∧ 0 ≤ g ∧ g ≤ V0 M 5 ∧ (∀ u, 0 ≤ u → u < g → x ≤ V (M + 13) (120 * h + u)) ∧ CJ (V0 M 5) (mMul V0 M) (mInv V0 M) (S h) (S x)) (fun _ g => (V0 M 5 - g).toNat) (fun x g hx ih2 => ?_) h 0 ⟨by omega, by omega, by omega, by omega, fun u a b => by omega, CJ_refl gt (sS h h0 z)⟩
  obtain ⟨x0, x1, g0, g1, xm, xc⟩ := hx
  refine t_X8_settles_130 ly (fun _ => ⟨by omega, fun q => ⟨by omega, by omega, fun q2 => ?_, fun q2 => ?_⟩, fun q => ?_⟩)
  · have nx := nc.2.1 x x0 (by omega)
    have nv : V (M + 16) (V (M + 14) x) = sm (fun j => bi (V (M + 14) j = V (M + 14) x)) h.toNat := nc.2.2.2.2.2 _ nx.1.1 nx.1.2
    have nb := sm_b (f := fun j => bi (V (M + 14) j = V (M + 14) x)) (n := h.toNat) (fun j _ _ => by rcases bi_01 (V (M + 14) j = V (M + 14) x) with q | q <;> · (try dsimp only); omega)
    rw [← nv] at nb
    have cr : 0 ≤ V (M + 14) x ∧ V (M + 14) x < V M 13 := nx.1
    refine ⟨by omega, fun _ => ⟨by omega, by omega, fun _ => ⟨by omega, by omega, ih (h + 1) _ ⟨by omega, by omega, s2_wr (s2_wr s (by omega)) (by omega), ?_, ?_⟩ (by omega)⟩⟩⟩
    · rw [← eS]
      exact funext (fun k => funext (fun t => (wr_a (by omega)).trans (wr_a (by omega))))
    · have ey : wr (wr V (M + 14) h (V (M + 14) x)) (M + 16) (V (M + 14) x) (V (M + 16) (V (M + 14) x) + 1) M 13 = V M 13 := by rw [wr_a (by omega), wr_a (by omega)]
      rw [ey]
      refine nc_old nc h0 nx.1 (CJ_trans gt (sS x x0 (by omega)) nx.2.2 (CJ_symm gt (sS h h0 z) (sS x x0 (by omega)) xc)) (fun j hj => ?_) ?_ (fun c => ?_) (fun c hc => ?_) ?_
      · (try dsimp only)
        rw [wr_a (by omega), wr_i hj]
      · (try dsimp only)
        rw [wr_a (by omega), wr_same]
      · (try dsimp only)
        rw [wr_a (by omega), wr_a (by omega)]
      · (try dsimp only)
        rw [wr_i hc, wr_a (by omega)]
      · (try dsimp only)
        rw [wr_same]
  · refine fun _ => ⟨by omega, by omega, by omega, by omega, ih (h + 1) _ ⟨by omega, by omega, s2_wr (s2_wr (s2_wr (s2_wr (s2_wr s (by omega)) (by omega)) (by omega)) (by omega)) (by omega), ?_, ?_⟩ (by omega)⟩
    · rw [← eS]
      exact funext (fun k => funext (fun t => by
        show wr (wr (wr (wr (wr V (M + 15) (V M 13) h) (M + 16) (V M 13) 0) (M + 14) h (V M 13)) M 13 (V M 13 + 1)) (M + 16) (V M 13) 1 (M + 9) (120 * k + t) = V (M + 9) (120 * k + t)
        rw [wr_a (by omega), wr_a (by omega), wr_a (by omega), wr_a (by omega), wr_a (by omega)]))
    · have ey : wr (wr (wr (wr (wr V (M + 15) (V M 13) h) (M + 16) (V M 13) 0) (M + 14) h (V M 13)) M 13 (V M 13 + 1)) (M + 16) (V M 13) 1 M 13 = V M 13 + 1 := by rw [wr_a (by omega), wr_same]
      rw [ey]
      refine nc_new nc h0 (CJ_refl gt (sS h h0 z)) (fun c c0 c1 w => ?_) (fun j hj => ?_) ?_ (fun c hc => ?_) ?_ (fun c hc => ?_) ?_
      · have f := (nc.2.2.1 c c0 c1).1
        have f0 : 0 ≤ V (M + 15) c := f.1
        have f1 : V (M + 15) c < h := f.2
        obtain ⟨u, u0, u1, u2⟩ := CJ_symm gt (sS _ f0 (by omega)) (sS h h0 z) w
        have l := ldd h u h0 z u0 u1
        rw [← eS] at u2
        have e : V (M + 13) (120 * h + u) = V (M + 15) c := s.2.1.2.2.2.2 _ _ l.1 l.2.1 f0 (by omega) (rqt l.2.2 (rqs u2))
        have := xm u u0 (by omega)
        omega
      · (try dsimp only)
        rw [wr_a (by omega), wr_a (by omega), wr_i hj, wr_a (by omega), wr_a (by omega)]
      · (try dsimp only)
        rw [wr_a (by omega), wr_a (by omega), wr_same]
      · (try dsimp only)
        rw [wr_a (by omega), wr_a (by omega), wr_a (by omega), wr_a (by omega), wr_i (by omega)]
      · (try dsimp only)
        rw [wr_a (by omega), wr_a (by omega), wr_a (by omega), wr_a (by omega), wr_same]
      · (try dsimp only)
        rw [wr_i (by omega), wr_a (by omega), wr_a (by omega), wr_i (by omega), wr_a (by omega)]
      · (try dsimp only)
        rw [wr_same]
  · have l := ldd h g h0 z g0 (by omega)
    have l0 := l.1
    have l2 := l.2.2
    rw [eS] at l2
    refine ⟨by omega, by omega, by omega, fun _ => ⟨by omega, fun y => ⟨by omega, ih2 x (g + 1) ⟨by omega, by omega, by omega, by omega, fun u u0 u1 => ?_, xc⟩ (by omega)⟩, fun y => ⟨by omega, ih2 _ (g + 1) ⟨by omega, by omega, by omega, by omega, fun u u0 u1 => ?_, ⟨g, g0, by omega, l2⟩⟩ (by omega)⟩⟩⟩
    · by_cases w : u = g
      · rw [w]; omega
      · exact xm u u0 (by omega)
    · by_cases w : u = g
      · rw [w]; exact Int.le_refl _
      · have := xm u u0 (by omega)
        omega
/-- heaps and group, while they are sorted and led -/
def s1 (V0 V : gV) (M : Nat) : Prop := stF V0 V M ∧ hpsP (V0 M 5) (V0 M 12) (mMul V0 M) (mHas V M) (fun k => V (M + 10) k)
theorem s1_GT {V0 : gV} (s : s1 V0 V M) : V M 5 = V0 M 5 ∧ V M 12 = V0 M 12 ∧ mMul V M = mMul V0 M ∧ mInv V M = mInv V0 M := ⟨s.1 _ _ (by omega) (by omega) (by omega) (by omega) (by omega) (by omega) (by omega) (by omega) (by omega), s.1 _ _ (by omega) (by omega) (by omega) (by omega) (by omega) (by omega) (by omega) (by omega) (by omega), funext (fun a => funext (fun b => s.1 _ _ (by omega) (by omega) (by omega) (by omega) (by omega) (by omega) (by omega) (by omega) (by omega))), funext (fun a => s.1 _ _ (by omega) (by omega) (by omega) (by omega) (by omega) (by omega) (by omega) (by omega) (by omega))⟩
theorem settles_2 (ly : lay8 G R M) {V0 : gV} (gt : GT (V0 M 5) (mMul V0 M) (mInv V0 M)) (hN : V0 M 5 ≤ 120) : ∀ h V, (0 ≤ h ∧ h ≤ V0 M 12 ∧ s1 V0 V M ∧ srtH V M (V0 M 5) (V0 M 12) ∧ (∀ h' g, 0 ≤ h' → h' < h → 0 ≤ g → g < V0 M 5 → ldP V0 V M h' g)) → wpv K_X8_settles 3 (fun r V' => r = none ∧ stP V0 V' M) 64 [some (4, (M : Int)), some (0, h)] [] G R V := by
  have N1 := gt.1
  refine loop1 (f := fun x => [some (4, (M : Int)), some (0, x)]) _ (fun x V => (V0 M 12 - x).toNat) (fun h V hx ih => ?_)
  obtain ⟨h0, h1, s, so, ld⟩ := hx
  have H1 := s.2.1
  have H3 := s.2.2.1
  have e := s1_GT s
  have e12 := e.2.1
  refine t_X8_settles_64 ly (fun _ => ⟨by omega, fun z => ?_, fun z => ?_⟩)
  · have w : ∀ b x, ¬ (b = M ∧ x = 13) → wr V M 13 0 b x = V b x := fun b x q => wr_ne q
    refine settles_3 ly gt hN 0 _ ⟨by omega, by omega, s2_wr ⟨s.1, s.2, fun h' g a0 a1 b0 b1 => ld h' g a0 (by omega) b0 b1, so⟩ (by omega), rfl, ?_⟩
    rw [wr_same]
    exact nc_nil
  rw [e12] at z
  refine loop1 (f := fun x => [some (4, (M : Int)), some (0, h), some (0, x)]) (fun g V => 0 ≤ g ∧ g ≤ V0 M 5 ∧ s1 V0 V M ∧ srtH V M (V0 M 5) (V0 M 12) ∧ (∀ h' g', 0 ≤ h' → 0 ≤ g' → g' < V0 M 5 → (h' < h ∨ (h' = h ∧ g' < g)) → ldP V0 V M h' g')) (fun g _ => (V0 M 5 - g).toNat) (fun g V hx ih2 => ?_) 0 V ⟨by omega, by omega, s, so, fun h' g' a0 b0 b1 q => ld h' g' a0 (by omega) b0 b1⟩
  clear s ld e e12 so
  obtain ⟨g0, g1, s, so, ld⟩ := hx
  have e := s1_GT s
  have e5 := e.1
  have e12 := e.2.1
  refine t_X8_settles_74 ly (fun _ => ⟨by omega, fun q => ⟨by omega, ih (h + 1) V ⟨by omega, by omega, s, so, fun h' g' a0 a1 b0 b1 => ld h' g' a0 b0 b1 (by omega)⟩ (by omega)⟩, fun q => ⟨by omega, by omega, ?_⟩⟩)
  have lc := ledTo_c (V := V) ly (by rw [e.1, e.2.2.1, e.2.2.2]; exact gt) (by omega) (by rw [e.1, e.2.1, e.2.2.1]; exact s.2) (h := h) (g := g) (by omega) (by omega)
  rw [e.1, e.2.1, e.2.2.1, e.2.2.2] at lc
  refine cwI_u (Nat.le_refl _) lc (fun v V' hv => ?_)
  obtain ⟨fr, v0, v1, v2⟩ := hv
  have w9 : ∀ k t, 0 ≤ k → k < V0 M 12 → 0 ≤ t → t < V0 M 5 → wr V' (M + 13) (120 * h + g) v (M + 9) (120 * k + t) = V (M + 9) (120 * k + t) := fun k t a0 a1 b0 b1 => by rw [wr_a (by omega)]; exact fr _ _ (by omega) (by omega)
  have wo : ∀ a i, a ≠ M + 13 → ¬ (a = M + 9 ∧ 36000 ≤ i) → ¬ (a = M + 10 ∧ i = 300) → wr V' (M + 13) (120 * h + g) v a i = V a i := fun a i q1 q2 q3 => by rw [wr_a q1]; exact fr a i q2 q3
  have w13 : ∀ i, i ≠ 120 * h + g → wr V' (M + 13) (120 * h + g) v (M + 13) i = V (M + 13) i := fun i q => by rw [wr_i q]; exact fr _ _ (by omega) (by omega)
  have rq : ∀ k, 0 ≤ k → k < V0 M 12 → req (V0 M 5) (mHas V M k) (mHas (wr V' (M + 13) (120 * h + g) v) M k) := fun k a0 a1 t b0 b1 => (w9 k t a0 a1 b0 b1).symm
  have cjE : ∀ h' g', 0 ≤ h' → h' < V0 M 12 → cj (V0 M 5) (mMul V0 M) (mInv V0 M) (mHas V M h') g' = cj (V0 M 5) (mMul V0 M) (mInv V0 M) (mHas (wr V' (M + 13) (120 * h + g) v) M h') g' := by
    intro h' g' a0 a1
    unfold cj
    have key : ∀ n : Nat, n ≤ (V0 M 5).toNat → imf (mHas V M h') (fun t => mMul V0 M (mMul V0 M (mInv V0 M g') t) g') n = imf (mHas (wr V' (M + 13) (120 * h + g) v) M h') (fun t => mMul V0 M (mMul V0 M (mInv V0 M g') t) g') n := by
      intro n
      induction n with
      | zero => intro _; rfl
      | succ n ihn =>
        intro le
        have e1 : mHas V M h' (n : Int) = mHas (wr V' (M + 13) (120 * h + g) v) M h' (n : Int) := (w9 h' n a0 a1 (by omega) (by omega)).symm
        unfold imf
        rw [ihn (by omega), e1]
    exact key _ (Nat.le_refl _)
  refine ⟨by omega, by omega, by omega, ih2 (g + 1) _ ⟨by omega, by omega, ⟨fun a i q1 q2 q3 q4 q5 q6 q7 q8 q9 => ?_, ?_⟩, srt_c rq so, fun h' g' a0 b0 b1 q2 => ?_⟩ (by omega)⟩
  · rw [wo a i q3 (by omega) (by omega)]; exact s.1 a i q1 q2 q3 q4 q5 q6 q7 q8 q9
  · exact hps_congr gt rq (fun k a0 a1 => (wo _ _ (by omega) (by omega) (by omega)).symm) s.2
  · unfold ldP
    by_cases y : h' = h ∧ g' = g
    · rw [y.1, y.2, wr_same]
      refine ⟨v0, v1, fun t t0 t1 => ?_⟩
      rw [← cjE h g h0 z, ← v2 t t0 t1]
      exact (rq v v0 v1 t t0 t1).symm
    · have l := ld h' g' a0 b0 b1 (by omega)
      have hb : h' < V0 M 12 := by omega
      rw [w13 _ (by omega)]
      refine ⟨l.1, l.2.1, fun t t0 t1 => ?_⟩
      rw [← cjE h' g' a0 hb, ← l.2.2 t t0 t1]
      exact (rq _ l.1 l.2.1 t t0 t1).symm
theorem settles_c (ly : lay8 G R M) (gt : GT (V M 5) (mMul V M) (mInv V M)) (hN : V M 5 ≤ 120) (hp : hpsP (V M 5) (V M 12) (mMul V M) (mHas V M) (fun k => V (M + 10) k)) : cwv 4 (fun r V' => r = none ∧ stP V V' M) 177 [(4, (M : Int))] G R V := by
  have N1 := gt.1
  have H1 := hp.1
  have H3 := hp.2.1
  refine c_X8_settles (t_X8_settles_0 ly ?_)
  generalize hV0 : V = V0 at gt hN hp N1 H1 H3 ⊢
  refine loop1 (f := fun x => [some (4, (M : Int)), some (0, x)]) (fun h V => 0 ≤ h ∧ h ≤ V0 M 12 ∧ s1 V0 V M ∧ ∀ a b, 0 ≤ a → a < h → a < b → b < V0 M 12 → ahd (V0 M 5) (mHas V M a) (mHas V M b)) (fun x V => (V0 M 12 - x).toNat) (fun h V hx ih => ?_) 0 V0 ⟨by omega, by omega, ⟨fun _ _ _ _ _ _ _ _ _ _ _ => rfl, hp⟩, fun a b a0 a1 => by omega⟩
  obtain ⟨h0, h1, s, so⟩ := hx
  have e := s1_GT s
  have e5 := e.1
  have e12 := e.2.1
  have szs : ∀ k, 0 ≤ k → k < V0 M 12 → V (M + 10) k = sm (mHas V M k) (V M 5).toNat := fun k a0 a1 => by rw [e5]; exact (s.2.2.2.1 k a0 a1).2
  refine t_X8_settles_2 ly (fun _ => ⟨by omega, fun z => settles_2 ly gt hN 0 V ⟨by omega, by omega, s, fun a b a0 ab b1 => so a b a0 (by omega) ab b1, fun h' g a0 a1 => by omega⟩, fun z => ⟨by omega, ?_⟩⟩)
  rw [e12] at z
  refine pool2 (f := fun x y => [some (4, (M : Int)), some (0, h), some (0, x), some (0, y)]) (fun b k => h ≤ b ∧ b < V0 M 12 ∧ h < k ∧ k ≤ V0 M 12 ∧ b < k ∧ ∀ j, h ≤ j → j < k → j ≠ b → ahd (V0 M 5) (mHas V M b) (mHas V M j)) (fun _ k => (V0 M 12 - k).toNat) (fun b k hx ih2 => ?_) h (h + 1) ⟨by omega, by omega, by omega, by omega, by omega, fun j j0 j1 j2 => by omega⟩
  obtain ⟨b0, b1, k0, k1, bk, bs⟩ := hx
  refine t_X8_settles_16 ly (fun _ => ⟨by omega, fun q => ⟨by omega, by omega, fun q2 => ⟨by omega, ih (h + 1) V ⟨by omega, by omega, s, fun a b' a0 a1 ab b2 => ?_⟩ (by omega)⟩, fun q2 => ?_⟩, fun q => ?_⟩)
  · by_cases y : a = h
    · rw [y]
      have eb : b = h := by omega
      rw [eb] at bs
      exact bs b' (by omega) (by omega) (by omega)
    · exact so a b' a0 (by omega) ab b2
  · refine cw0_u (Nat.le_add_right 1 2) (changes_c (V := V) ly (h := h) (k := b) (by omega) (by omega) (by omega) (by omega)) (fun V' hv => ⟨by omega, ih (h + 1) V' ⟨by omega, by omega, ⟨?_, ?_⟩, ?_⟩ (by omega)⟩)
    · obtain ⟨f1, f2, f3, f4⟩ := hv
      intro a i q1 q2 q3 q4 q5 q6 q7 q8 q9
      rw [f1 a i (fun y => q1 y.1) (fun y => q2 y.1)]; exact s.1 a i q1 q2 q3 q4 q5 q6 q7 q8 q9
    · obtain ⟨f1, f2, f3, f4⟩ := hv
      rw [e5] at f1 f2
      refine hps_swap gt (i := h) (j := b) ⟨h0, z⟩ ⟨by omega, b1⟩ (fun k' a0 a1 n1 n2 => ⟨fun t t0 t1 => (f1 _ _ (by omega) (by omega)).symm, (f1 _ _ (by omega) (by omega)).symm⟩) ⟨fun t t0 t1 => (f2 t t0 t1).1.symm, f3.symm⟩ ⟨fun t t0 t1 => (f2 t t0 t1).2.symm, f4.symm⟩ s.2
    · obtain ⟨f1, f2, f3, f4⟩ := hv
      rw [e5] at f1 f2
      have rh : req (V0 M 5) (mHas V M b) (mHas V' M h) := fun t t0 t1 => (f2 t t0 t1).1.symm
      have rb : req (V0 M 5) (mHas V M h) (mHas V' M b) := fun t t0 t1 => (f2 t t0 t1).2.symm
      have ro : ∀ x, 0 ≤ x → x < V0 M 12 → x ≠ h → x ≠ b → req (V0 M 5) (mHas V M x) (mHas V' M x) := fun x a0 a1 n1 n2 t t0 t1 => (f1 _ _ (by omega) (by omega)).symm
      have kb := bs
      have kH : k = V0 M 12 := by omega
      intro a b' a0 a1 ab b2
      by_cases y : a = h
      · rw [y]
        by_cases y2 : b' = b
        · rw [y2]; exact ah_congr rh rb (bs h (by omega) (by omega) (by omega))
        · exact ah_congr rh (ro b' (by omega) b2 (by omega) y2) (bs b' (by omega) (by omega) y2)
      · have ra := ro a a0 (by omega) y (by omega)
        by_cases y2 : b' = b
        · rw [y2]; exact ah_congr ra rb (so a h a0 (by omega) (by omega) (by omega))
        · by_cases y3 : b' = h
          · rw [y3]; exact ah_congr ra rh (so a b a0 (by omega) (by omega) b1)
          · exact ah_congr ra (ro b' (by omega) b2 y3 y2) (so a b' a0 (by omega) ab b2)
  · refine cpI_u (Nat.le_add_right 1 2) (isAhead_e (V := V) ly (h := k) (k := b) (by omega) (by omega) (by omega) (szs k (by omega) (by omega)) (szs b (by omega) b1)) ⟨bi32 _, fun w => ⟨by omega, ih2 b (k + 1) ⟨by omega, by omega, by omega, by omega, by omega, fun j j0 j1 j2 => ?_⟩ (by omega)⟩, fun w => ⟨by omega, ih2 k (k + 1) ⟨by omega, by omega, by omega, by omega, by omega, fun j j0 j1 j2 => ?_⟩ (by omega)⟩⟩
    · by_cases y : j = k
      · have na := bi_0.mp w
        rw [e5] at na
        rw [y]
        rcases ah_tot (A := mHas V M k) (B := mHas V M b) (N := V0 M 5) (s.2.2.2.1 k (by omega) (by omega)).1.1 (s.2.2.2.1 b (by omega) b1).1.1 (fun e => by have := s.2.2.2.2.2 k b (by omega) (by omega) (by omega) b1 e; omega) with w2 | w2
        · exact absurd w2 na
        · exact w2
      · exact bs j j0 (by omega) j2
    · have ya : ahd (V0 M 5) (mHas V M k) (mHas V M b) := by
        rcases bi_01 (ahd (V M 5) (mHas V M k) (mHas V M b)) with y | y
        · exact absurd y w
        · have := bi_1.mp y
          rw [e5] at this
          exact this
      by_cases y : j = b
      · rw [y]; exact ya
      · exact ah_tr ya (bs j j0 (by omega) y)
end
