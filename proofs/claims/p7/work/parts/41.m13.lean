section
variable {d : Nat} {G : List gS} {R V : gV} {M : Nat}
def s2 (V0 V : gV) (M : Nat) : Prop := stF V0 V M ∧ hpsP (V0 M 5) (V0 M 12) (mMul V0 M) (mHas V M) (fun k => V (M + 10) k) ∧ (∀ h g, 0 ≤ h → h < V0 M 12 → 0 ≤ g → g < V0 M 5 → ldP V0 V M h g)
theorem s2_wr {V0 : gV} (h : s2 V0 V M) {a : Nat} {i v : Int} (ha : a = M + 14 ∨ a = M + 15 ∨ a = M + 16 ∨ (a = M ∧ i = 13)) : s2 V0 (wr V a i v) M := by
  have w : ∀ b x, b ≠ M + 14 → b ≠ M + 15 → b ≠ M + 16 → ¬ (b = M ∧ x = 13) → wr V a i v b x = V b x := fun b x q1 q2 q3 q4 => wr_ne (by omega)
  have eS : mHas (wr V a i v) M = mHas V M := funext (fun k => funext (fun t => w _ _ (by omega) (by omega) (by omega) (by omega)))
  obtain ⟨h1, h2, h3⟩ := h
  refine ⟨fun b x q1 q2 q3 q4 q5 q6 q7 q8 q9 => by rw [w b x q4 q5 q6 q9]; exact h1 b x q1 q2 q3 q4 q5 q6 q7 q8 q9, ?_, ?_⟩
  · rw [eS]
    have : (fun k => wr V a i v (M + 10) k) = fun k => V (M + 10) k := funext (fun k => w _ _ (by omega) (by omega) (by omega) (by omega))
    rw [this]; exact h2
  · intro h g a0 a1 b0 b1
    unfold ldP
    rw [eS, w _ _ (by omega) (by omega) (by omega) (by omega)]
    exact h3 h g a0 a1 b0 b1
theorem cls_of {V0 : gV} (gt : GT (V0 M 5) (mMul V0 M) (mInv V0 M)) (hp : hpsP (V0 M 5) (V0 M 12) (mMul V0 M) (mHas V M) (fun k => V (M + 10) k)) (ld : ∀ h g, 0 ≤ h → h < V0 M 12 → 0 ≤ g → g < V0 M 5 → ldP V0 V M h g) (co : ∀ h', 0 ≤ h' → h' < V0 M 12 → 0 ≤ V (M + 14) h' ∧ V (M + 14) h' < V M 13) (fo : ∀ c, 0 ≤ c → c < V M 13 → 0 ≤ V (M + 15) c ∧ V (M + 15) c < V0 M 12 ∧ ∀ g, 0 ≤ g → g < V0 M 5 → V (M + 15) c ≤ V (M + 13) (120 * V (M + 15) c + g)) (fm : ∀ c e, 0 ≤ c → c < e → e < V M 13 → V (M + 15) c < V (M + 15) e) (cc : ∀ h', 0 ≤ h' → h' < V0 M 12 → CJ (V0 M 5) (mMul V0 M) (mInv V0 M) (mHas V M (V (M + 15) (V (M + 14) h'))) (mHas V M h')) : isCls (V0 M 5) (mMul V0 M) (mInv V0 M) (V M 13) := by
  have no : ∀ i j, 0 ≤ i → i < j → j < V M 13 → ¬ CJ (V0 M 5) (mMul V0 M) (mInv V0 M) (mHas V M (V (M + 15) j)) (mHas V M (V (M + 15) i)) := by
    intro i j i0 ij j1
    rintro ⟨g, g0, g1, e⟩
    have fi := fo i i0 (by omega)
    have fj := fo j (by omega) j1
    have l := ld _ g fj.1 fj.2.1 g0 g1
    have := hp.2.2.2.2 _ _ fi.1 fi.2.1 l.1 l.2.1 (fun t t0 t1 => by rw [e t t0 t1, l.2.2 t t0 t1])
    have a := fj.2.2 g g0 g1
    have b := fm i j i0 ij j1
    omega
  have sm_ : ∀ i, 0 ≤ i → i < V M 13 → SM (V0 M 5) (mMul V0 M) (mHas V M (V (M + 15) i)) := fun i i0 i1 => (hp.2.2.1 _ (fo i i0 i1).1 (fo i i0 i1).2.1).1
  refine ⟨fun i => mHas V M (V (M + 15) i), sm_, fun i j i0 i1 j0 j1 e => ?_, fun T hT => ?_⟩
  · rcases Int.lt_trichotomy i j with z | z | z
    · exact absurd (CJ_symm gt (sm_ i i0 i1) (sm_ j j0 j1) e) (no i j i0 z j1)
    · exact z
    · exact absurd e (no j i j0 z i1)
  · obtain ⟨k, k0, k1, k2⟩ := hp.2.2.2.1 T hT
    obtain ⟨g, g0, g1, e⟩ := cc k k0 k1
    exact ⟨V (M + 14) k, (co k k0 k1).1, (co k k0 k1).2, g, g0, g1, fun t t0 t1 => by rw [← k2 t t0 t1]; exact e t t0 t1⟩
theorem settles_3 (ly : lay8 G R M) {V0 : gV} (gt : GT (V0 M 5) (mMul V0 M) (mInv V0 M)) (hN : V0 M 5 ≤ 120) : ∀ h V, (0 ≤ h ∧ h ≤ V0 M 12 ∧ s2 V0 V M ∧ 0 ≤ V M 13 ∧ V M 13 ≤ h ∧ (0 < h → 1 ≤ V M 13) ∧ (∀ h', 0 ≤ h' → h' < h → 0 ≤ V (M + 14) h' ∧ V (M + 14) h' < V M 13) ∧ (∀ c, 0 ≤ c → c < V M 13 → 0 ≤ V (M + 15) c ∧ V (M + 15) c < V0 M 12 ∧ 0 ≤ V (M + 16) c ∧ V (M + 16) c ≤ h ∧ V (M + 15) c < h ∧ ∀ g, 0 ≤ g → g < V0 M 5 → V (M + 15) c ≤ V (M + 13) (120 * V (M + 15) c + g)) ∧ (∀ c e, 0 ≤ c → c < e → e < V M 13 → V (M + 15) c < V (M + 15) e) ∧ (∀ h', 0 ≤ h' → h' < h → CJ (V0 M 5) (mMul V0 M) (mInv V0 M) (mHas V M (V (M + 15) (V (M + 14) h'))) (mHas V M h'))) → wpv K_X8_settles 3 (fun r V' => r = none ∧ stP V0 V' M) 118 [some (4, (M : Int)), some (0, h)] [] G R V := by
  have N1 := gt.1
  refine loop1 (f := fun x => [some (4, (M : Int)), some (0, x)]) _ (fun x V => (V0 M 12 - x).toNat) (fun h V hx ih => ?_)
  obtain ⟨h0, h1, s, k0, k1, k2, co, fo, fm, cc⟩ := hx
  have H1 := s.2.1.1
  have H3 := s.2.1.2.1
  have e12 : V M 12 = V0 M 12 := s.1 _ _ (by omega) (by omega) (by omega) (by omega) (by omega) (by omega) (by omega) (by omega) (by omega)
  have e5 : V M 5 = V0 M 5 := s.1 _ _ (by omega) (by omega) (by omega) (by omega) (by omega) (by omega) (by omega) (by omega) (by omega)
  refine t_X8_settles_118 ly (fun _ => ⟨by omega, fun z => ⟨by omega, settles_4 ly gt hN _ V ⟨by omega, by omega, s.1, s.2.1, s.2.2, by omega, by omega, fun h' a0 a1 => co h' a0 (by omega), fun c a0 a1 => ⟨(fo c a0 a1).1, (fo c a0 a1).2.1⟩, cls_of gt s.2.1 s.2.2 (fun h' a0 a1 => co h' a0 (by omega)) (fun c a0 a1 => ⟨(fo c a0 a1).1, (fo c a0 a1).2.1, (fo c a0 a1).2.2.2.2.2⟩) fm (fun h' a0 a1 => cc h' a0 (by omega))⟩⟩, fun z => ?_⟩)
  rw [e12] at z
  refine pool2 (f := fun x y => [some (4, (M : Int)), some (0, h), some (0, x), some (0, y)]) (fun x g => 0 ≤ x ∧ x ≤ h ∧ 0 ≤ g ∧ g ≤ V0 M 5 ∧ (∀ u, 0 ≤ u → u < g → x ≤ V (M + 13) (120 * h + u)) ∧ CJ (V0 M 5) (mMul V0 M) (mInv V0 M) (mHas V M h) (mHas V M x)) (fun _ g => (V0 M 5 - g).toNat) (fun x g hx ih2 => ?_) h 0 ⟨by omega, by omega, by omega, by omega, fun u a b => by omega, CJ_refl gt (s.2.1.2.2.1 h h0 z).1⟩
  obtain ⟨x0, x1, g0, g1, xm, xc⟩ := hx
  refine t_X8_settles_130 ly (fun _ => ⟨by omega, fun q => ⟨by omega, by omega, fun q2 => ?_, fun q2 => ?_⟩, fun q => ?_⟩)
  · have cx := co x x0 (by omega)
    have fx := fo _ cx.1 cx.2
    refine ⟨by omega, fun _ => ⟨by omega, by omega, fun _ => ⟨by omega, by omega, ih (h + 1) _ ⟨by omega, by omega, s2_wr (s2_wr s (by omega)) (by omega), ?_, ?_, fun _ => ?_, fun h' a0 a1 => ?_, fun c a0 a1 => ?_, fun c e a0 a1 a2 => ?_, fun h' a0 a1 => ?_⟩ (by omega)⟩⟩⟩
    · rw [wr_a (by omega), wr_a (by omega)]; exact k0
    · rw [wr_a (by omega), wr_a (by omega)]; omega
    · rw [wr_a (by omega), wr_a (by omega)]; exact k2 (by omega)
    · rw [wr_a (show M ≠ M + 16 by omega), wr_a (show M ≠ M + 14 by omega), wr_a (by omega)]
      by_cases y : h' = h
      · rw [y, wr_same]; exact cx
      · rw [wr_i y]; exact co h' a0 (by omega)
    · rw [wr_a (by omega), wr_a (by omega)] at a1
      rw [wr_a (show M + 15 ≠ M + 16 by omega), wr_a (show M + 15 ≠ M + 14 by omega)]
      have fc := fo c a0 a1
      refine ⟨fc.1, fc.2.1, ?_, ?_, by omega, fun g' b0 b1 => by rw [wr_a (show M + 13 ≠ M + 16 by omega), wr_a (show M + 13 ≠ M + 14 by omega)]; exact fc.2.2.2.2.2 g' b0 b1⟩
      · by_cases y : c = V (M + 14) x
        · rw [y, wr_same]; omega
        · rw [wr_i y, wr_a (by omega)]; omega
      · by_cases y : c = V (M + 14) x
        · rw [y, wr_same]; omega
        · rw [wr_i y, wr_a (by omega)]; omega
    · rw [wr_a (by omega), wr_a (by omega)] at a2
      rw [wr_a (show M + 15 ≠ M + 16 by omega), wr_a (show M + 15 ≠ M + 14 by omega), wr_a (show M + 15 ≠ M + 16 by omega), wr_a (show M + 15 ≠ M + 14 by omega)]
      exact fm c e a0 a1 a2
    · have wS : mHas (wr (wr V (M + 14) h (V (M + 14) x)) (M + 16) (V (M + 14) x) (V (M + 16) (V (M + 14) x) + 1)) M = mHas V M := funext (fun k => funext (fun t => (wr_a (by omega)).trans (wr_a (by omega))))
      rw [wS, wr_a (show M + 15 ≠ M + 16 by omega), wr_a (show M + 15 ≠ M + 14 by omega), wr_a (show M + 14 ≠ M + 16 by omega)]
      by_cases y : h' = h
      · rw [y, wr_same]
        have sx := (s.2.1.2.2.1 x x0 (by omega)).1
        exact CJ_trans gt sx (cc x x0 (by omega)) (CJ_symm gt (s.2.1.2.2.1 h h0 z).1 sx xc)
      · rw [wr_i y]; exact cc h' a0 (by omega)
  · refine fun _ => ⟨by omega, by omega, by omega, by omega, ih (h + 1) _ ⟨by omega, by omega, s2_wr (s2_wr (s2_wr (s2_wr (s2_wr s (by omega)) (by omega)) (by omega)) (by omega)) (by omega), ?_, ?_, fun _ => ?_, fun h' a0 a1 => ?_, fun c a0 a1 => ?_, fun c e a0 a1 a2 => ?_, fun h' a0 a1 => ?_⟩ (by omega)⟩
    · rw [wr_a (by omega), wr_same]; omega
    · rw [wr_a (by omega), wr_same]; omega
    · rw [wr_a (by omega), wr_same]; omega
    · rw [wr_a (show M ≠ M + 16 by omega), wr_same, wr_a (by omega), wr_a (by omega)]
      by_cases y : h' = h
      · rw [y, wr_same]; omega
      · rw [wr_i y, wr_a (by omega), wr_a (by omega)]
        have := co h' a0 (by omega)
        omega
    · rw [wr_a (show M ≠ M + 16 by omega), wr_same] at a1
      rw [wr_a (show M + 15 ≠ M + 16 by omega), wr_a (show M + 15 ≠ M by omega), wr_a (show M + 15 ≠ M + 14 by omega), wr_a (show M + 15 ≠ M + 16 by omega)]
      have w13 : ∀ i, wr (wr (wr (wr (wr V (M + 15) (V M 13) h) (M + 16) (V M 13) 0) (M + 14) h (V M 13)) M 13 (V M 13 + 1)) (M + 16) (V M 13) 1 (M + 13) i = V (M + 13) i := fun i => by rw [wr_a (by omega), wr_a (by omega), wr_a (by omega), wr_a (by omega), wr_a (by omega)]
      simp only [w13]
      by_cases y : c = V M 13
      · rw [y, wr_same, wr_same]
        exact ⟨by omega, by omega, by omega, by omega, by omega, fun g' b0 b1 => by have := xm g' b0 (by omega); omega⟩
      · have fc := fo c a0 (by omega)
        rw [wr_i y, wr_i y, wr_a (by omega), wr_a (by omega), wr_i y, wr_a (by omega)]
        exact ⟨fc.1, fc.2.1, fc.2.2.1, by omega, by omega, fc.2.2.2.2.2⟩
    · rw [wr_a (show M ≠ M + 16 by omega), wr_same] at a2
      rw [wr_a (show M + 15 ≠ M + 16 by omega), wr_a (show M + 15 ≠ M by omega), wr_a (show M + 15 ≠ M + 14 by omega), wr_a (show M + 15 ≠ M + 16 by omega), wr_a (show M + 15 ≠ M + 16 by omega), wr_a (show M + 15 ≠ M by omega), wr_a (show M + 15 ≠ M + 14 by omega), wr_a (show M + 15 ≠ M + 16 by omega), wr_i (show c ≠ V M 13 by omega)]
      by_cases y : e = V M 13
      · rw [y, wr_same]; exact (fo c a0 (by omega)).2.2.2.2.1
      · rw [wr_i y]; exact fm c e a0 a1 (by omega)
    · have wS : mHas (wr (wr (wr (wr (wr V (M + 15) (V M 13) h) (M + 16) (V M 13) 0) (M + 14) h (V M 13)) M 13 (V M 13 + 1)) (M + 16) (V M 13) 1) M = mHas V M := funext (fun k => funext (fun t => by
        show wr (wr (wr (wr (wr V (M + 15) (V M 13) h) (M + 16) (V M 13) 0) (M + 14) h (V M 13)) M 13 (V M 13 + 1)) (M + 16) (V M 13) 1 (M + 9) (120 * k + t) = V (M + 9) (120 * k + t)
        rw [wr_a (by omega), wr_a (by omega), wr_a (by omega), wr_a (by omega), wr_a (by omega)]))
      rw [wS, wr_a (show M + 15 ≠ M + 16 by omega), wr_a (show M + 15 ≠ M by omega), wr_a (show M + 15 ≠ M + 14 by omega), wr_a (show M + 15 ≠ M + 16 by omega), wr_a (show M + 14 ≠ M + 16 by omega), wr_a (show M + 14 ≠ M by omega)]
      by_cases y : h' = h
      · rw [y, wr_same, wr_same]
        exact CJ_refl gt (s.2.1.2.2.1 h h0 z).1
      · have := co h' a0 (by omega)
        rw [wr_i y, wr_a (show M + 14 ≠ M + 16 by omega), wr_a (show M + 14 ≠ M + 15 by omega), wr_i (show V (M + 14) h' ≠ V M 13 by omega)]
        exact cc h' a0 (by omega)
  · have l := s.2.2 h g h0 z g0 (by omega)
    have l0 := l.1
    refine ⟨by omega, by omega, by omega, fun _ => ⟨by omega, fun y => ⟨by omega, ih2 x (g + 1) ⟨by omega, by omega, by omega, by omega, fun u u0 u1 => ?_, xc⟩ (by omega)⟩, fun y => ⟨by omega, ih2 _ (g + 1) ⟨by omega, by omega, by omega, by omega, fun u u0 u1 => ?_, ⟨g, g0, by omega, l.2.2⟩⟩ (by omega)⟩⟩⟩
    · by_cases w : u = g
      · rw [w]; omega
      · exact xm u u0 (by omega)
    · by_cases w : u = g
      · rw [w]; exact Int.le_refl _
      · have := xm u u0 (by omega)
        omega
/-- heaps and group, while they are sorted and led -/
def s1 (V0 V : gV) (M : Nat) : Prop := stF V0 V M ∧ hpsP (V0 M 5) (V0 M 12) (mMul V0 M) (mHas V M) (fun k => V (M + 10) k)
theorem s1_GT {V0 : gV} (s : s1 V0 V M) : V M 5 = V0 M 5 ∧ V M 12 = V0 M 12 ∧ mMul V M = mMul V0 M ∧ mInv V M = mInv V0 M := ⟨s.1 _ _ (by omega) (by omega) (by omega) (by omega) (by omega) (by omega) (by omega) (by omega) (by omega), s.1 _ _ (by omega) (by omega) (by omega) (by omega) (by omega) (by omega) (by omega) (by omega) (by omega), funext (fun a => funext (fun b => s.1 _ _ (by omega) (by omega) (by omega) (by omega) (by omega) (by omega) (by omega) (by omega) (by omega))), funext (fun a => s.1 _ _ (by omega) (by omega) (by omega) (by omega) (by omega) (by omega) (by omega) (by omega) (by omega))⟩
theorem settles_2 (ly : lay8 G R M) {V0 : gV} (gt : GT (V0 M 5) (mMul V0 M) (mInv V0 M)) (hN : V0 M 5 ≤ 120) : ∀ h V, (0 ≤ h ∧ h ≤ V0 M 12 ∧ s1 V0 V M ∧ (∀ h' g, 0 ≤ h' → h' < h → 0 ≤ g → g < V0 M 5 → ldP V0 V M h' g)) → wpv K_X8_settles 3 (fun r V' => r = none ∧ stP V0 V' M) 64 [some (4, (M : Int)), some (0, h)] [] G R V := by
  have N1 := gt.1
  refine loop1 (f := fun x => [some (4, (M : Int)), some (0, x)]) _ (fun x V => (V0 M 12 - x).toNat) (fun h V hx ih => ?_)
  obtain ⟨h0, h1, s, ld⟩ := hx
  have H1 := s.2.1
  have H3 := s.2.2.1
  have e := s1_GT s
  have e12 := e.2.1
  refine t_X8_settles_64 ly (fun _ => ⟨by omega, fun z => ?_, fun z => ?_⟩)
  · have w : ∀ b x, ¬ (b = M ∧ x = 13) → wr V M 13 0 b x = V b x := fun b x q => wr_ne q
    refine settles_3 ly gt hN 0 _ ⟨by omega, by omega, s2_wr ⟨s.1, s.2, fun h' g a0 a1 b0 b1 => ld h' g a0 (by omega) b0 b1⟩ (by omega), ?_, ?_, fun q => by omega, fun h' a0 a1 => by omega, fun c a0 a1 => ?_, fun c e a0 a1 a2 => ?_, fun h' a0 a1 => by omega⟩
    · rw [wr_same]; omega
    · rw [wr_same]; omega
    · rw [wr_same] at a1; omega
    · rw [wr_same] at a2; omega
  rw [e12] at z
  refine loop1 (f := fun x => [some (4, (M : Int)), some (0, h), some (0, x)]) (fun g V => 0 ≤ g ∧ g ≤ V0 M 5 ∧ s1 V0 V M ∧ (∀ h' g', 0 ≤ h' → 0 ≤ g' → g' < V0 M 5 → (h' < h ∨ (h' = h ∧ g' < g)) → ldP V0 V M h' g')) (fun g _ => (V0 M 5 - g).toNat) (fun g V hx ih2 => ?_) 0 V ⟨by omega, by omega, s, fun h' g' a0 b0 b1 q => ld h' g' a0 (by omega) b0 b1⟩
  clear s ld e e12
  obtain ⟨g0, g1, s, ld⟩ := hx
  have e := s1_GT s
  have e5 := e.1
  have e12 := e.2.1
  refine t_X8_settles_74 ly (fun _ => ⟨by omega, fun q => ⟨by omega, ih (h + 1) V ⟨by omega, by omega, s, fun h' g' a0 a1 b0 b1 => ld h' g' a0 b0 b1 (by omega)⟩ (by omega)⟩, fun q => ⟨by omega, by omega, ?_⟩⟩)
  have lc := ledTo_c (V := V) ly (by rw [e.1, e.2.2.1, e.2.2.2]; exact gt) (by omega) (by rw [e.1, e.2.1, e.2.2.1]; exact s.2) (h := h) (g := g) (by omega) (by omega)
  rw [e.1, e.2.1, e.2.2.1, e.2.2.2] at lc
  refine cwI_u (Nat.le_refl _) lc (fun v V' hv => ?_)
  obtain ⟨fr, v0, v1, v2⟩ := hv
  have w9 : ∀ k t, 0 ≤ k → k < V0 M 12 → 0 ≤ t → t < V0 M 5 → wr V' (M + 13) (120 * h + g) v (M + 9) (120 * k + t) = V (M + 9) (120 * k + t) := fun k t a0 a1 b0 b1 => by rw [wr_a (by omega)]; exact fr _ _ (by omega) (by omega)
  have wo : ∀ a i, a ≠ M + 13 → ¬ (a = M + 9 ∧ 36000 ≤ i) → ¬ (a = M + 10 ∧ i = 300) → wr V' (M + 13) (120 * h + g) v a i = V a i := fun a i q1 q2 q3 => by rw [wr_a q1]; exact fr a i q2 q3
  have w13 : ∀ i, i ≠ 120 * h + g → wr V' (M + 13) (120 * h + g) v (M + 13) i = V (M + 13) i := fun i q => by rw [wr_i q]; exact fr _ _ (by omega) (by omega)
  have rq : ∀ k, 0 ≤ k → k < V0 M 12 → req (V0 M 5) (mHas V M k) (mHas (wr V' (M + 13) (120 * h + g) v) M k) := fun k a0 a1 t b0 b1 => (w9 k t a0 a1 b0 b1).symm
  have cjE : ∀ h' g', 0 ≤ h' → h' < V0 M 12 → cj (V0 M 5) (mMul V0 M) (mInv V0 M) (mHas V M h') g' = cj (V0 M 5) (mMul V0 M) (mInv V0 M) (mHas (wr V' (M + 13) (120 * h + g) v) M h') g' := by
    intro h' g' a0 a1
    unfold cj
    have key : ∀ n : Nat, n ≤ (V0 M 5).toNat → imf (mHas V M h') (fun t => mMul V0 M (mMul V0 M (mInv V0 M g') t) g') n = imf (mHas (wr V' (M + 13) (120 * h + g) v) M h') (fun t => mMul V0 M (mMul V0 M (mInv V0 M g') t) g') n := by
      intro n
      induction n with
      | zero => intro _; rfl
      | succ n ihn =>
        intro le
        have e1 : mHas V M h' (n : Int) = mHas (wr V' (M + 13) (120 * h + g) v) M h' (n : Int) := (w9 h' n a0 a1 (by omega) (by omega)).symm
        unfold imf
        rw [ihn (by omega), e1]
    exact key _ (Nat.le_refl _)
  refine ⟨by omega, by omega, by omega, ih2 (g + 1) _ ⟨by omega, by omega, ⟨fun a i q1 q2 q3 q4 q5 q6 q7 q8 q9 => ?_, ?_⟩, fun h' g' a0 b0 b1 q2 => ?_⟩ (by omega)⟩
  · rw [wo a i q3 (by omega) (by omega)]; exact s.1 a i q1 q2 q3 q4 q5 q6 q7 q8 q9
  · exact hps_congr gt rq (fun k a0 a1 => (wo _ _ (by omega) (by omega) (by omega)).symm) s.2
  · unfold ldP
    by_cases y : h' = h ∧ g' = g
    · rw [y.1, y.2, wr_same]
      refine ⟨v0, v1, fun t t0 t1 => ?_⟩
      rw [← cjE h g h0 z, ← v2 t t0 t1]
      exact (rq v v0 v1 t t0 t1).symm
    · have l := ld h' g' a0 b0 b1 (by omega)
      have hb : h' < V0 M 12 := by omega
      rw [w13 _ (by omega)]
      refine ⟨l.1, l.2.1, fun t t0 t1 => ?_⟩
      rw [← cjE h' g' a0 hb, ← l.2.2 t t0 t1]
      exact (rq _ l.1 l.2.1 t t0 t1).symm
theorem settles_c (ly : lay8 G R M) (gt : GT (V M 5) (mMul V M) (mInv V M)) (hN : V M 5 ≤ 120) (hp : hpsP (V M 5) (V M 12) (mMul V M) (mHas V M) (fun k => V (M + 10) k)) : cwv 4 (fun r V' => r = none ∧ stP V V' M) 177 [(4, (M : Int))] G R V := by
  have N1 := gt.1
  have H1 := hp.1
  have H3 := hp.2.1
  refine c_X8_settles (t_X8_settles_0 ly ?_)
  generalize hV0 : V = V0 at gt hN hp N1 H1 H3 ⊢
  refine loop1 (f := fun x => [some (4, (M : Int)), some (0, x)]) (fun h V => 0 ≤ h ∧ h ≤ V0 M 12 ∧ s1 V0 V M) (fun x V => (V0 M 12 - x).toNat) (fun h V hx ih => ?_) 0 V0 ⟨by omega, by omega, fun _ _ _ _ _ _ _ _ _ _ _ => rfl, hp⟩
  obtain ⟨h0, h1, s⟩ := hx
  have e := s1_GT s
  have e5 := e.1
  have e12 := e.2.1
  refine t_X8_settles_2 ly (fun _ => ⟨by omega, fun z => settles_2 ly gt hN 0 V ⟨by omega, by omega, s, fun h' g a0 a1 => by omega⟩, fun z => ⟨by omega, ?_⟩⟩)
  rw [e12] at z
  refine pool2 (f := fun x y => [some (4, (M : Int)), some (0, h), some (0, x), some (0, y)]) (fun b k => h ≤ b ∧ b < V0 M 12 ∧ h < k ∧ k ≤ V0 M 12) (fun _ k => (V0 M 12 - k).toNat) (fun b k hx ih2 => ?_) h (h + 1) ⟨by omega, by omega, by omega, by omega⟩
  obtain ⟨b0, b1, k0, k1⟩ := hx
  refine t_X8_settles_16 ly (fun _ => ⟨by omega, fun q => ⟨by omega, by omega, fun q2 => ⟨by omega, ih (h + 1) V ⟨by omega, by omega, s⟩ (by omega)⟩, fun q2 => ?_⟩, fun q => ?_⟩)
  · refine cw0_u (Nat.le_add_right 1 2) (changes_c (V := V) ly (h := h) (k := b) (by omega) (by omega) (by omega) (by omega)) (fun V' hv => ⟨by omega, ih (h + 1) V' ⟨by omega, by omega, ?_, ?_⟩ (by omega)⟩)
    · obtain ⟨f1, f2, f3, f4⟩ := hv
      intro a i q1 q2 q3 q4 q5 q6 q7 q8 q9
      rw [f1 a i (fun y => q1 y.1) (fun y => q2 y.1)]; exact s.1 a i q1 q2 q3 q4 q5 q6 q7 q8 q9
    · obtain ⟨f1, f2, f3, f4⟩ := hv
      rw [e5] at f1 f2
      refine hps_swap gt (i := h) (j := b) ⟨h0, z⟩ ⟨by omega, b1⟩ (fun k' a0 a1 n1 n2 => ⟨fun t t0 t1 => (f1 _ _ (by omega) (by omega)).symm, (f1 _ _ (by omega) (by omega)).symm⟩) ⟨fun t t0 t1 => (f2 t t0 t1).1.symm, f3.symm⟩ ⟨fun t t0 t1 => (f2 t t0 t1).2.symm, f4.symm⟩ s.2
  · refine cwI_u (Nat.le_add_right 1 2) (isAhead_c (V := V) ly (h := k) (k := b) (by omega) (by omega) (by omega)) (fun v V' hv => ?_)
    obtain ⟨ev, hv⟩ := hv
    subst ev
    exact ⟨by omega, fun _ => ⟨by omega, ih2 b (k + 1) ⟨by omega, by omega, by omega, by omega⟩ (by omega)⟩, fun _ => ⟨by omega, ih2 k (k + 1) ⟨by omega, by omega, by omega, by omega⟩ (by omega)⟩⟩
end
