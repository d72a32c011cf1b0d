section
variable {d : Nat} {G : List gS} {R V : gV} {M : Nat}
theorem hps_congr {N H : Int} {mul : Int → Int → Int} {inv : Int → Int} (g : GT N mul inv) {S S' : Int → Int → Int} {sz sz' : Int → Int} (e : ∀ k, 0 ≤ k → k < H → req N (S k) (S' k)) (e1 : ∀ k, 0 ≤ k → k < H → sz k = sz' k) (h : hpsP N H mul S sz) : hpsP N H mul S' sz' := by
  have en : ((N.toNat : Nat) : Int) = N := Int.toNat_of_nonneg (by have := g.1; omega)
  obtain ⟨h1, h2, h3, h4, h5⟩ := h
  refine ⟨h1, h2, fun k k0 k1 => ⟨SM_congr g (e k k0 k1) (h3 k k0 k1).1, ?_⟩, fun T hT => ?_, fun i j i0 i1 j0 j1 q => h5 i j i0 i1 j0 j1 (fun t t0 t1 => by rw [e i i0 i1 t t0 t1, e j j0 j1 t t0 t1]; exact q t t0 t1)⟩
  · rw [← e1 k k0 k1, (h3 k k0 k1).2]
    exact sm_congr (fun t t0 t1 => e k k0 k1 t t0 (by omega))
  · obtain ⟨k, k0, k1, k2⟩ := h4 T hT
    exact ⟨k, k0, k1, fun t t0 t1 => by rw [← e k k0 k1 t t0 t1]; exact k2 t t0 t1⟩
theorem hps_swap {N H : Int} {mul : Int → Int → Int} {inv : Int → Int} (g : GT N mul inv) {S S' : Int → Int → Int} {sz sz' : Int → Int} {i j : Int} (i0 : 0 ≤ i ∧ i < H) (j0 : 0 ≤ j ∧ j < H) (e : ∀ k, 0 ≤ k → k < H → k ≠ i → k ≠ j → req N (S k) (S' k) ∧ sz k = sz' k) (ei : req N (S j) (S' i) ∧ sz j = sz' i) (ej : req N (S i) (S' j) ∧ sz i = sz' j) (h : hpsP N H mul S sz) : hpsP N H mul S' sz' := by
  have en : ((N.toNat : Nat) : Int) = N := Int.toNat_of_nonneg (by have := g.1; omega)
  obtain ⟨h1, h2, h3, h4, h5⟩ := h
  have from_ : ∀ k k', 0 ≤ k → k < H → req N (S k) (S' k') → sz k = sz' k' → SM N mul (S' k') ∧ sz' k' = sm (S' k') N.toNat := fun k k' k0 k1 a b => ⟨SM_congr g a (h3 k k0 k1).1, by rw [← b, (h3 k k0 k1).2]; exact sm_congr (fun t t0 t1 => a t t0 (by omega))⟩
  have pre : ∀ k, 0 ≤ k → k < H → ∃ k', 0 ≤ k' ∧ k' < H ∧ req N (S k') (S' k) ∧ ((k = i ∧ k' = j) ∨ (k = j ∧ k' = i) ∨ (k ≠ i ∧ k ≠ j ∧ k' = k)) := by
    intro k k0 k1
    by_cases q1 : k = i
    · exact ⟨j, j0.1, j0.2, by rw [q1]; exact ei.1, Or.inl ⟨q1, rfl⟩⟩
    · by_cases q2 : k = j
      · exact ⟨i, i0.1, i0.2, by rw [q2]; exact ej.1, Or.inr (Or.inl ⟨q2, rfl⟩)⟩
      · exact ⟨k, k0, k1, (e k k0 k1 q1 q2).1, Or.inr (Or.inr ⟨q1, q2, rfl⟩)⟩
  refine ⟨h1, h2, fun k k0 k1 => ?_, fun T hT => ?_, fun a b a0 a1 b0 b1 q => ?_⟩
  · by_cases q1 : k = i
    · rw [q1]; exact from_ j i j0.1 j0.2 ei.1 ei.2
    · by_cases q2 : k = j
      · rw [q2]; exact from_ i j i0.1 i0.2 ej.1 ej.2
      · exact from_ k k k0 k1 (e k k0 k1 q1 q2).1 (e k k0 k1 q1 q2).2
  · obtain ⟨k, k0, k1, k2⟩ := h4 T hT
    by_cases q1 : k = i
    · rw [q1] at k2
      exact ⟨j, j0.1, j0.2, fun t t0 t1 => by rw [← ej.1 t t0 t1]; exact k2 t t0 t1⟩
    · by_cases q2 : k = j
      · rw [q2] at k2
        exact ⟨i, i0.1, i0.2, fun t t0 t1 => by rw [← ei.1 t t0 t1]; exact k2 t t0 t1⟩
      · exact ⟨k, k0, k1, fun t t0 t1 => by rw [← (e k k0 k1 q1 q2).1 t t0 t1]; exact k2 t t0 t1⟩
  · obtain ⟨a', x0, x1, x2, x3⟩ := pre a a0 a1
    obtain ⟨b', y0, y1, y2, y3⟩ := pre b b0 b1
    have := h5 a' b' x0 x1 y0 y1 (fun t t0 t1 => by rw [x2 t t0 t1, y2 t t0 t1]; exact q t t0 t1)
    omega
def stF (V0 V : gV) (M : Nat) : Prop := ∀ a i, a ≠ M + 9 → a ≠ M + 10 → a ≠ M + 13 → a ≠ M + 14 → a ≠ M + 15 → a ≠ M + 16 → a ≠ M + 17 → a ≠ M + 18 → ¬ (a = M ∧ i = 13) → V a i = V0 a i
/-- heaps, and where they are led -/
def ldP (V0 V : gV) (M : Nat) (h g : Int) : Prop := 0 ≤ V (M + 13) (120 * h + g) ∧ V (M + 13) (120 * h + g) < V0 M 12 ∧ req (V0 M 5) (mHas V M (V (M + 13) (120 * h + g))) (cj (V0 M 5) (mMul V0 M) (mInv V0 M) (mHas V M h) g)
/-- heaps stand in order -/
def srtH (V : gV) (M : Nat) (N H : Int) : Prop := ∀ a b, 0 ≤ a → a < b → b < H → ahd N (mHas V M a) (mHas V M b)
theorem srt_c {V V' : gV} {M : Nat} {N H : Int} (rq : ∀ k, 0 ≤ k → k < H → req N (mHas V M k) (mHas V' M k)) (h : srtH V M N H) : srtH V' M N H := fun a b a0 ab b1 => ah_congr (rq a a0 (by omega)) (rq b (by omega) b1) (h a b a0 ab b1)
/-- the classes -/
def s3 (V0 V : gV) (M : Nat) : Prop := stF V0 V M ∧ hpsP (V0 M 5) (V0 M 12) (mMul V0 M) (mHas V M) (fun k => V (M + 10) k) ∧ (∀ h g, 0 ≤ h → h < V0 M 12 → 0 ≤ g → g < V0 M 5 → ldP V0 V M h g) ∧ 1 ≤ V M 13 ∧ V M 13 ≤ V0 M 12 ∧ (∀ h, 0 ≤ h → h < V0 M 12 → 0 ≤ V (M + 14) h ∧ V (M + 14) h < V M 13) ∧ (∀ c, 0 ≤ c → c < V M 13 → 0 ≤ V (M + 15) c ∧ V (M + 15) c < V0 M 12) ∧ isCls (V0 M 5) (mMul V0 M) (mInv V0 M) (V M 13) ∧ srtH V M (V0 M 5) (V0 M 12) ∧ clX (V0 M 5) (V0 M 12) (V M 13) (mMul V0 M) (mInv V0 M) (mHas V M) (fun h => V (M + 14) h) (fun c => V (M + 15) c) (fun c => V (M + 16) c)
def tbP (V : gV) (M : Nat) (c e : Int) : Prop := 0 ≤ V (M + 18) (300 * c + e) ∧ V (M + 18) (300 * c + e) ≤ 120 ∧ (c = e → 1 ≤ V (M + 18) (300 * c + e)) ∧ V (M + 18) (300 * c + e) = tbx (V M 5) (mMul V M) (mInv V M) (mHas V M) (fun c => V (M + 15) c) c e
def sgX (V0 V : gV) (M : Nat) (h : Int) : Prop := V (M + 17) h = jw (mu (V0 M 12) (Lq (V0 M 5) (mHas V M)) h)
theorem s3_wr {V0 : gV} (h : s3 V0 V M) {a : Nat} {i v : Int} (ha : a = M + 17 ∨ a = M + 18) : s3 V0 (wr V a i v) M := by
  have w : ∀ b x, b ≠ M + 17 → b ≠ M + 18 → wr V a i v b x = V b x := fun b x q1 q2 => wr_a (by omega)
  have eS : mHas (wr V a i v) M = mHas V M := funext (fun k => funext (fun t => w _ _ (by omega) (by omega)))
  obtain ⟨h1, h2, h3, h4, h5, h6, h7, h8⟩ := h
  refine ⟨fun b x q1 q2 q3 q4 q5 q6 q7 q8 q9 => by rw [w b x q7 q8]; exact h1 b x q1 q2 q3 q4 q5 q6 q7 q8 q9, ?_, ?_, ?_, ?_, ?_, ?_, by rw [w _ _ (by omega) (by omega)]; exact h8.1, by unfold srtH; rw [eS]; exact h8.2.1, ?_⟩
  · rw [eS]
    have : (fun k => wr V a i v (M + 10) k) = fun k => V (M + 10) k := funext (fun k => w _ _ (by omega) (by omega))
    rw [this]; exact h2
  · intro h g a0 a1 b0 b1
    unfold ldP
    rw [eS, w _ _ (by omega) (by omega)]
    exact h3 h g a0 a1 b0 b1
  · rw [w _ _ (by omega) (by omega)]; exact h4
  · rw [w _ _ (by omega) (by omega)]; exact h5
  · intro h a0 a1
    rw [w _ _ (by omega) (by omega), w M 13 (by omega) (by omega)]; exact h6 h a0 a1
  · intro c a0 a1
    rw [w M 13 (by omega) (by omega)] at a1
    rw [w _ _ (by omega) (by omega)]; exact h7 c a0 a1
  · have f : ∀ b, b ≠ M + 17 → b ≠ M + 18 → (fun x => wr V a i v b x) = fun x => V b x := fun b q1 q2 => funext (fun x => w b x q1 q2)
    rw [eS, w M 13 (by omega) (by omega), f (M + 14) (by omega) (by omega), f (M + 15) (by omega) (by omega), f (M + 16) (by omega) (by omega)]
    exact h8.2.2
theorem wf18 {a : Nat} {i v : Int} (ha : a = M + 17 ∨ a = M + 18) : mHas (wr V a i v) M = mHas V M ∧ mMul (wr V a i v) M = mMul V M ∧ mInv (wr V a i v) M = mInv V M ∧ (fun c => wr V a i v (M + 15) c) = (fun c => V (M + 15) c) ∧ wr V a i v M 5 = V M 5 := by
  have w : ∀ b x, b ≠ M + 17 → b ≠ M + 18 → wr V a i v b x = V b x := fun b x q1 q2 => wr_a (by omega)
  exact ⟨funext (fun k => funext (fun t => w _ _ (by omega) (by omega))), funext (fun k => funext (fun t => w _ _ (by omega) (by omega))), funext (fun t => w _ _ (by omega) (by omega)), funext (fun t => w _ _ (by omega) (by omega)), w _ _ (by omega) (by omega)⟩
theorem tb_wr {c e j v : Int} (h : tbP V M c e) (ne : 300 * c + e ≠ j) : tbP (wr V (M + 18) j v) M c e := by
  obtain ⟨f1, f2, f3, f4, f5⟩ := wf18 (V := V) (M := M) (a := M + 18) (i := j) (v := v) (Or.inr rfl)
  unfold tbP
  rw [f1, f2, f3, f4, f5, wr_i ne]
  exact h
theorem tb_new {c e v : Int} (v0 : 0 ≤ v) (v1 : v ≤ 120) (v2 : c = e → 1 ≤ v) (v3 : v = tbx (V M 5) (mMul V M) (mInv V M) (mHas V M) (fun c => V (M + 15) c) c e) : tbP (wr V (M + 18) (300 * c + e) v) M c e := by
  obtain ⟨f1, f2, f3, f4, f5⟩ := wf18 (V := V) (M := M) (a := M + 18) (i := 300 * c + e) (v := v) (Or.inr rfl)
  unfold tbP
  rw [f1, f2, f3, f4, f5, wr_same]
  exact ⟨v0, v1, v2, v3⟩
theorem sg_wr {V0 : gV} {h j v : Int} {a : Nat} (q : sgX V0 V M h) (ha : a = M + 18 ∨ (a = M + 17 ∧ h ≠ j)) : sgX V0 (wr V a j v) M h := by
  obtain ⟨f1, _⟩ := wf18 (V := V) (M := M) (a := a) (i := j) (v := v) (by omega)
  unfold sgX
  rw [f1, wr_ne (by omega)]
  exact q
def stP (V0 V : gV) (M : Nat) : Prop := s3 V0 V M ∧ (∀ c e, 0 ≤ c → c < V M 13 → 0 ≤ e → e < V M 13 → tbP V M c e) ∧ ∀ h, 0 ≤ h → h < V0 M 12 → sgX V0 V M h
theorem settles_5 (ly : lay8 G R M) {V0 : gV} (gt : GT (V0 M 5) (mMul V0 M) (mInv V0 M)) (hN : V0 M 5 ≤ 120) : ∀ c V, (0 ≤ c ∧ c ≤ V M 13 ∧ s3 V0 V M ∧ (∀ c' e, 0 ≤ c' → c' < c → 0 ≤ e → e < V M 13 → tbP V M c' e) ∧ ∀ h, 0 ≤ h → h < V0 M 12 → sgX V0 V M h) → wpv K_X8_settles 3 (fun r V' => r = none ∧ stP V0 V' M) 353 [some (4, (M : Int)), some (0, c)] [] G R V := by
  have N1 := gt.1
  have en : (((V0 M 5).toNat : Nat) : Int) = V0 M 5 := Int.toNat_of_nonneg (by omega)
  refine loop1 (f := fun x => [some (4, (M : Int)), some (0, x)]) _ (fun x V => (300 - x).toNat) (fun c V hx ih => ?_)
  obtain ⟨c0, c1, s, tb, sg⟩ := hx
  have H3 := s.2.1.2.1
  have k5 := s.2.2.2.2.1
  refine t_X8_settles_353 ly (fun _ => ⟨by omega, fun q => ⟨rfl, s, fun c' e a0 a1 b0 b1 => tb c' e a0 (by omega) b0 b1, sg⟩, fun q => ?_⟩)
  refine loop1 (f := fun x => [some (4, (M : Int)), some (0, c), some (0, x)]) (fun e V => 0 ≤ e ∧ e ≤ V M 13 ∧ c < V M 13 ∧ s3 V0 V M ∧ (∀ c' e', 0 ≤ c' → 0 ≤ e' → e' < V M 13 → (c' < c ∨ (c' = c ∧ e' < e)) → tbP V M c' e') ∧ ∀ h, 0 ≤ h → h < V0 M 12 → sgX V0 V M h) (fun e _ => (300 - e).toNat) (fun e V hx ih2 => ?_) 0 V ⟨by omega, by omega, q, s, fun c' e' a0 b0 b1 z => tb c' e' a0 (by omega) b0 b1, sg⟩
  clear s tb q H3 k5 c1 sg
  obtain ⟨e0, e1, q, s, tb, sg⟩ := hx
  have H3 := s.2.1.2.1
  have k5 := s.2.2.2.2.1
  refine t_X8_settles_363 ly (fun _ => ⟨by omega, fun q2 => ⟨by omega, ih (c + 1) V ⟨by omega, by omega, s, fun c' e' a0 a1 b0 b1 => tb c' e' a0 b0 b1 (by omega), sg⟩ (by omega)⟩, fun q2 => ?_⟩)
  have fc := s.2.2.2.2.2.2.1 c c0 q
  have fe := s.2.2.2.2.2.2.1 e e0 q2
  have e5 : V M 5 = V0 M 5 := s.1 _ _ (by omega) (by omega) (by omega) (by omega) (by omega) (by omega) (by omega) (by omega) (by omega)
  have hc := s.2.1.2.2.1 _ fc.1 fc.2
  have szc : V (M + 10) (V (M + 15) c) = sm (mHas V M (V (M + 15) c)) (V0 M 5).toNat := hc.2
  have s1 : 1 ≤ sm (mHas V M (V (M + 15) c)) (V0 M 5).toNat := by
    have : sm (fun _ => 0) (V0 M 5).toNat < sm (mHas V M (V (M + 15) c)) (V0 M 5).toNat := by
      refine sm_lt (j := 0) (fun i i0 i1 => ?_) (by omega) (by omega) ?_
      · rcases hc.1.1 i i0 (by omega) with z | z <;> omega
      · have := hc.1.2.1
        omega
    have z := (sm_b (f := fun _ => 0) (n := (V0 M 5).toNat) (fun i _ _ => ⟨by omega, by omega⟩)).1
    omega
  refine pool2 (f := fun x y => [some (4, (M : Int)), some (0, c), some (0, e), some (0, x), some (0, y)]) (fun n g => 0 ≤ g ∧ g ≤ V0 M 5 ∧ n = sm (fun g => bi (sub1 (V0 M 5) (mHas V M (V (M + 13) (120 * V (M + 15) e + g))) (mHas V M (V (M + 15) c)))) g.toNat) (fun _ g => (V0 M 5 - g).toNat) (fun n g hx ih3 => ?_) 0 0 ⟨by omega, by omega, rfl⟩
  obtain ⟨g0, g1, hn⟩ := hx
  have nb := sm_b (f := fun g => bi (sub1 (V0 M 5) (mHas V M (V (M + 13) (120 * V (M + 15) e + g))) (mHas V M (V (M + 15) c)))) (n := g.toNat) (fun i _ _ => by rcases bi_01 (sub1 (V0 M 5) (mHas V M (V (M + 13) (120 * V (M + 15) e + i))) (mHas V M (V (M + 15) c))) with z | z <;> omega)
  rw [← hn] at nb
  refine t_X8_settles_376 ly (fun _ => ⟨by omega, fun z => ?_, fun z => ?_⟩)
  · have gN : g = V0 M 5 := by omega
    have dv0 : 0 ≤ n / V (M + 10) (V (M + 15) c) := Int.ediv_nonneg (by omega) (by omega)
    have dv1 : n / V (M + 10) (V (M + 15) c) ≤ n := Int.ediv_le_self _ (by omega)
    refine ⟨by omega, by omega, by omega, fun _ => ⟨by omega, fun _ => ⟨by omega, by omega, by omega, by omega, by omega, ih2 (e + 1) _ ⟨by omega, ?_, ?_, s3_wr s (Or.inr rfl), fun c' e' a0 b0 b1 w => ?_, fun h h0 h1 => sg_wr (sg h h0 h1) (Or.inl rfl)⟩ (by omega)⟩⟩⟩
    · rw [wr_a (by omega)]; omega
    · rw [wr_a (by omega)]; exact q
    · rw [wr_a (by omega)] at b1
      have eM : mMul V M = mMul V0 M := funext (fun a => funext (fun b => s.1 _ _ (by omega) (by omega) (by omega) (by omega) (by omega) (by omega) (by omega) (by omega) (by omega)))
      have eI : mInv V M = mInv V0 M := funext (fun a => s.1 _ _ (by omega) (by omega) (by omega) (by omega) (by omega) (by omega) (by omega) (by omega) (by omega))
      by_cases y : c' = c ∧ e' = e
      · rw [y.1, y.2]
        refine tb_new dv0 (by omega) (fun ce => ?_) ?_
        · have le : sm (mHas V M (V (M + 15) c)) (V0 M 5).toNat ≤ n := by
            rw [hn, gN]
            refine sm_le (fun i i0 i1 => ?_)
            rcases hc.1.1 i i0 (by omega) with w1 | w1
            · rw [w1]; rcases bi_01 (sub1 (V0 M 5) (mHas V M (V (M + 13) (120 * V (M + 15) e + i))) (mHas V M (V (M + 15) c))) with w2 | w2 <;> omega
            · rw [w1, bi_t]
              · exact Int.le_refl _
              · have l := (s.2.2.1 _ i fe.1 fe.2 i0 (by omega)).2.2
                rw [← ce] at l ⊢
                intro t t0 t1 h
                exact cj_own gt hc.1 ⟨i0, by omega⟩ w1 t t0 t1 (by rw [← l t t0 t1]; exact h)
          rw [szc]
          exact (Int.le_ediv_iff_mul_le (by omega)).mpr (by omega)
        · unfold tbx
          rw [e5, eM, eI, ← szc, hn, gN]
          rw [sm_congr (g := fun g => bi (sub1 (V0 M 5) (cj (V0 M 5) (mMul V0 M) (mInv V0 M) (mHas V M (V (M + 15) e)) g) (mHas V M (V (M + 15) c)))) (fun g g0 g1 => bi_c (sub_iff (s.2.2.1 _ g fe.1 fe.2 g0 (by omega)).2.2 (fun _ _ _ => rfl)))]
      · exact tb_wr (tb c' e' a0 b0 b1 (by omega)) (by omega)
  · have l := s.2.2.1 (V (M + 15) e) g fe.1 fe.2 g0 (by omega)
    have st := sm_s (fun g => bi (sub1 (V0 M 5) (mHas V M (V (M + 13) (120 * V (M + 15) e + g))) (mHas V M (V (M + 15) c)))) g0
    rw [← hn] at st
    have l0 := l.1
    have l1 := l.2.1
    refine ⟨by omega, fun _ => ⟨by omega, by omega, by omega, fun _ => ⟨by omega, fun _ => ?_⟩⟩⟩
    have lc := lies_c (V := V) ly (h := V (M + 13) (120 * V (M + 15) e + g)) (k := V (M + 15) c) (by omega) (by omega) (by omega)
    rw [e5] at lc
    refine cpI_u (Nat.le_add_right 1 2) lc ⟨bi32 _, fun w => ⟨by omega, by omega, ih3 _ (g + 1) ⟨by omega, by omega, ?_⟩ (by omega)⟩, fun w => ⟨by omega, by omega, ih3 _ (g + 1) ⟨by omega, by omega, ?_⟩ (by omega)⟩⟩
    · rw [st, w]
    · rw [st]
      rcases bi_01 (sub1 (V0 M 5) (mHas V M (V (M + 13) (120 * V (M + 15) e + g))) (mHas V M (V (M + 15) c))) with y | y
      · exact absurd y w
      · rw [y]
theorem settles_4 (ly : lay8 G R M) {V0 : gV} (gt : GT (V0 M 5) (mMul V0 M) (mInv V0 M)) (hN : V0 M 5 ≤ 120) : ∀ h V, (-1 ≤ h ∧ h < V0 M 12 ∧ s3 V0 V M ∧ ∀ h', h < h' → h' < V0 M 12 → sgX V0 V M h') → wpv K_X8_settles 3 (fun r V' => r = none ∧ stP V0 V' M) 263 [some (4, (M : Int)), some (0, h)] [] G R V := by
  have N1 := gt.1
  refine loop1 (f := fun x => [some (4, (M : Int)), some (0, x)]) _ (fun x V => (x + 1).toNat) (fun h V hx ih => ?_)
  obtain ⟨h0, h1, s, sg⟩ := hx
  have H3 := s.2.1.2.1
  have e12 : V M 12 = V0 M 12 := s.1 _ _ (by omega) (by omega) (by omega) (by omega) (by omega) (by omega) (by omega) (by omega) (by omega)
  have k4 := s.2.2.2.1
  have inner : ¬ h < 0 → ∀ k V, (h < k ∧ k ≤ V0 M 12 ∧ s3 V0 V M ∧ (∀ h', h < h' → h' < V0 M 12 → sgX V0 V M h') ∧ V (M + 17) h = jw ((if h = V0 M 12 - 1 then 1 else 0) - sm (fun k' => if h < k' then Lq (V0 M 5) (mHas V M) h k' * mu (V0 M 12) (Lq (V0 M 5) (mHas V M)) k' else 0) k.toNat)) → wpv K_X8_settles 3 (fun r V' => r = none ∧ stP V0 V' M) 292 [some (4, (M : Int)), some (0, h), some (0, k)] [] G R V := by
    intro hh
    refine loop1 (f := fun x => [some (4, (M : Int)), some (0, h), some (0, x)]) _ (fun k V => (V0 M 12 - k).toNat) (fun k V hx ih2 => ?_)
    obtain ⟨k0, k1, s, sg, sh⟩ := hx
    have e12 : V M 12 = V0 M 12 := s.1 _ _ (by omega) (by omega) (by omega) (by omega) (by omega) (by omega) (by omega) (by omega) (by omega)
    have e5 : V M 5 = V0 M 5 := s.1 _ _ (by omega) (by omega) (by omega) (by omega) (by omega) (by omega) (by omega) (by omega) (by omega)
    have st := sm_s (fun k' => if h < k' then Lq (V0 M 5) (mHas V M) h k' * mu (V0 M 12) (Lq (V0 M 5) (mHas V M)) k' else 0) (show 0 ≤ k by omega)
    (try dsimp only at st)
    rw [if_pos k0] at st
    -- a heap that this one doesn't lie in
    have skip : k < V0 M 12 → Lq (V0 M 5) (mHas V M) h k = 0 → wpv K_X8_settles 3 (fun r V' => r = none ∧ stP V0 V' M) 292 [some (4, (M : Int)), some (0, h), some (0, k + 1)] [] G R V := fun kl l0 => ih2 (k + 1) V ⟨by omega, by omega, s, sg, by rw [st, l0, Int.zero_mul, Int.add_zero]; exact sh⟩ (by omega)
    refine t_X8_settles_292 ly (fun _ => ⟨by omega, fun z => ⟨by omega, ih (h - 1) V ⟨by omega, by omega, s, fun h' q1 q2 => ?_⟩ (by omega)⟩, fun z => ⟨by omega, fun _ => ⟨by omega, fun _ => ⟨fun z1 => ⟨by omega, skip (by omega) (bi_f (fun w => ?_))⟩, fun z1 => ?_⟩⟩⟩⟩)
    · by_cases y : h' = h
      · unfold sgX
        rw [y, sh, mu_eq (by omega) h1, show k = V0 M 12 by omega]
      · exact sg h' (by omega) q2
    · have := sub_szl s.2.1 (by omega) (h := h) (k := k) (by omega) (by omega) w (by omega)
      (try dsimp only at this)
      omega
    · have lc := lies_c (V := V) ly (h := h) (k := k) (by omega) (by omega) (by omega)
      rw [e5] at lc
      refine cpI_u (Nat.le_add_right 1 2) lc ⟨bi32 _, fun z2 => ⟨by omega, skip (by omega) z2⟩, fun z2 => ⟨by omega, fun _ => ⟨by omega, fun _ => ⟨by omega, ih2 (k + 1) _ ⟨by omega, by omega, s3_wr s (Or.inl rfl), fun h' q1 q2 => sg_wr (sg h' q1 q2) (Or.inr ⟨rfl, by omega⟩), ?_⟩ (by omega)⟩⟩⟩⟩
      obtain ⟨f1, _⟩ := wf18 (V := V) (M := M) (a := M + 17) (i := h) (v := jsub (V (M + 17) h) (V (M + 17) k)) (Or.inl rfl)
      have l1 : Lq (V0 M 5) (mHas V M) h k = 1 := by
        rcases bi_01 (sub1 (V0 M 5) (mHas V M h) (mHas V M k)) with y | y
        · exact absurd y z2
        · exact y
      have sk : V (M + 17) k = jw (mu (V0 M 12) (Lq (V0 M 5) (mHas V M)) k) := sg k k0 (by omega)
      rw [f1, wr_same, st, l1, sh, sk, jsub_j, Int.one_mul]
      congr 1
      omega
  have f0 : ∀ v, mHas (wr V (M + 17) h v) M = mHas V M := fun v => (wf18 (V := V) (M := M) (a := M + 17) (i := h) (v := v) (Or.inl rfl)).1
  have z0 : ¬ h < 0 → sm (fun k' => if h < k' then Lq (V0 M 5) (mHas V M) h k' * mu (V0 M 12) (Lq (V0 M 5) (mHas V M)) k' else 0) (h + 1).toNat = 0 := fun z => sm_zz (fun i i0 i1 => if_neg (by omega))
  refine t_X8_settles_263 ly ⟨by omega, fun z => settles_5 ly gt hN 0 V ⟨by omega, by omega, s, fun c' e a0 a1 => by omega, fun h' a0 a1 => sg h' (by omega) a1⟩, fun z => fun _ => ⟨by omega, fun y => ⟨by omega, by omega, inner z (h + 1) _ ⟨by omega, by omega, s3_wr s (Or.inl rfl), fun h' q1 q2 => sg_wr (sg h' q1 q2) (Or.inr ⟨rfl, by omega⟩), ?_⟩⟩, fun y => ⟨by omega, by omega, inner z (h + 1) _ ⟨by omega, by omega, s3_wr s (Or.inl rfl), fun h' q1 q2 => sg_wr (sg h' q1 q2) (Or.inr ⟨rfl, by omega⟩), ?_⟩⟩⟩⟩
  · rw [f0, z0 z, wr_same, if_neg (by omega)]
    rfl
  · rw [f0, z0 z, wr_same, if_pos (by omega)]
    rfl
end
