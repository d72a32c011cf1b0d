/-! heaps are filled, exactly -/
/-- what is known of a group's heaps: classes, in how many others they lie, signs, what a turn makes -/
def hgX (N : Int) (mul : Int → Int → Int) (inv : Int → Int) (V : gV) (y o : Nat) : Prop := clX N (V y 0) (V y 1) mul inv (hR V y) (fun h => V (y + 4) h) (fun c => V (y + 7) c) (fun c => V (y + 8) c) ∧ (∀ c e, 0 ≤ c → c < V y 1 → 0 ≤ e → e < V y 1 → V o (c * V y 1 + e) = ov N (V y 0) (hR V y) (fun h => V (y + 4) h) (fun c => V (y + 7) c) c e) ∧ (∀ c, 0 ≤ c → c < V y 1 → V (y + 10) c = N / (V (y + 8) c * V (y + 3) (V (y + 7) c))) ∧ (∀ c, 0 ≤ c → c < V y 1 → V (y + 9) c = kw (mu (V y 0) (Lq N (hR V y)) (V (y + 7) c))) ∧ (∀ t, 0 ≤ t → t < N → inP N (V y 0) (hR V y) (cyc mul t) (V (y + 5) t))
def flY (G : List gS) (R : gV) (T : gT) (y o m : Nat) (N : Int) (mul : Int → Int → Int) (inv : Int → Int) (G' : List gS) (R' V' : gV) : Prop := ∃ (T' : gT) (o' m' : Nat) (E' : Int), TH T' V' ∧ hT G' R' T' y o' m' E' ∧ y + 11 < o' ∧ (∀ c, (c < y ∨ y + 11 < c) → c ≠ o → c ≠ o' → T' c = T c) ∧ (∀ c i, (c ≠ y ∨ i ≠ 13) → R' c i = R c i) ∧ gR G o m G' o' m' 180000 ∧ pnY T' y o' V' ∧ hfX N mul V' y ∧ hgX N mul inv V' y o' ∧ ∀ qd : Int → Int, (∀ i, 0 ≤ i → i < V' y 0 → 0 ≤ qd i ∧ qd i < 300) → ∃ T'' : gT, TH T'' V' ∧ hT G' R' T'' y o' m' E' ∧ (∀ c, c ≠ y + 6 → T'' c = T' c) ∧ ∀ i, 0 ≤ i → i < V' y 0 → T'' (y + 6) i (qd i) ∧ ∀ v, T'' (y + 6) i v → v = -1 ∨ v = qd i
section
variable {G : List gS} {R V V0 : gV} {T : gT} {S : Nat → Int → Prop} {f x p n y o m : Nat} {C D E : Int}
theorem fill_x (a : hA G R T y) (b : hB T y o) (bcl : ∀ v, T y 1 v ↔ 0 ≤ v ∧ v ≤ 300) (ro : R y 13 = (o : Int)) (go : G[o]? = some (gA 0 m)) (e0 : 0 ≤ E ∧ E ≤ 300) (em : E * E ≤ m) (u : fT G R T f) (t : tT G R T x p n C D) (hD : D ≤ C) (th : TH T V) (tx : tX V0 x p) (fx : fnX V0 V f x p) (ho : y + 11 < o) (hx : x + 9 = y) (hp : x + 7 < p) (hpo : p ≠ o) (hpy : p < y ∨ y + 11 < p) (hf : f + 11 < x) (pt : ∀ c, ((x ≤ c ∧ c ≤ x + 7) ∨ c = p) → ∀ i v, T c i v → v = V0 c i) : cw 4 (fun r G' R' V' => r = none ∧ flY G R T y o m (V0 x 1) (pMul V0 x p) (iI V0 x) G' R' V') 73 [(4, (y : Int)), (4, (f : Int)), (4, (x : Int))] G R V := by
  have N1 := tx.1
  have h1 := fx.1.1.1
  have l := a.ly
  have lf := u.ly
  refine c_X4_fill (t_X4_fill_0 ⟨ly3_o lf, fun _ => ⟨ly4_o l, ?_⟩⟩)
  have w0 : ∀ c i, c ≠ y → wr V y 0 (V f 0) c i = V c i := fun c i hc => wr_a hc
  have hS0 : ∀ k, hS (wr V y 0 (V f 0)) f k = hS V f k := fun k => hS_c (w0 _ _ (by omega)) (w0 _ _ (by omega))
  refine cw0_u (by omega) (sortFound_x (N := V0 x 1) (V := wr V y 0 (V f 0)) l u (TH_wr th ((b.cn _).mpr h1)) b.so (by omega) (by rw [wr_same]; exact h1) (by omega) (fun k k0 k1 => ?_) (fun k k0 k1 => ?_) (fun i j i0 ij j1 => ?_)) (fun V5 h5 => ?_)
  · rw [wr_same] at k1; rw [w0 _ _ (by omega), hS0]; exact fx.2.1.1 k k0 k1
  · rw [wr_same] at k1; rw [hS0]; exact (fx.1.1.2.1 k k0 k1).2
  · rw [wr_same] at j1; rw [hS0, hS0]; exact fx.1.1.2.2 i j i0 ij j1
  obtain ⟨th5, f5, s5⟩ := h5
  rw [wr_same] at s5
  have y5 : V5 y 0 = V f 0 := by rw [f5 _ _ (by omega), wr_same]
  have c5 : ∀ c i, c ≠ y → c ≠ y + 11 → V5 c i = V c i := fun c i q1 q2 => by rw [f5 _ _ q2, w0 _ _ q1]
  have s51 := s5.1
  have s52 : ∀ a b, 0 ≤ a → a < b → b < V f 0 → ahd (V0 x 1) (hS V f (V5 (y + 11) a)) (hS V f (V5 (y + 11) b)) := fun a b a0 ab b1 => by have := s5.2 a b a0 ab b1; rw [hS0, hS0] at this; exact this
  refine loop1g (f := fun a => [some (4, (y : Int)), some (4, (f : Int)), some (4, (x : Int)), some (0, a)]) (Inv := fun a W => TH T W ∧ (0 ≤ a ∧ a ≤ 300) ∧ Fr (fun c _ => c = y + 1 ∨ c = y + 2 ∨ c = y + 3 ∨ c = y + 6) V5 W ∧ ∀ k, 0 ≤ k → k < a → W (y + 1) k = V (f + 1) (V5 (y + 11) k) ∧ W (y + 2) k = V (f + 2) (V5 (y + 11) k) ∧ W (y + 3) k = V (f + 3) (V5 (y + 11) k) ∧ W (y + 6) k = -1) (μ := fun a _ => (300 - a).toNat) (fun h V6 hv ih => ?_) 0 V5 ⟨th5, by omega, Fr_0, fun k k0 k1 => by omega⟩
  obtain ⟨th6, b01, f6, r6⟩ := hv
  have y6 : V6 y 0 = V f 0 := by rw [f6 _ _ (by omega)]; exact y5
  have g6 : ∀ i, V6 (y + 11) i = V5 (y + 11) i := fun i => f6 _ _ (by omega)
  have f61 : ∀ c i, f ≤ c → c ≤ f + 11 → V6 c i = V c i := fun c i q1 q2 => by rw [f6 _ _ (by omega)]; exact c5 c i (by omega) (by omega)
  refine t_X4_fill_15 ⟨ly4_o l, fun _ => ⟨by omega, fun ha => ?_, fun ha => ?_⟩⟩
  · have hf6 : hfX (V0 x 1) (pMul V0 x p) V6 y := hf_ok tx fx rfl rfl s51 s52 y6 (fun k k0 k1 => (r6 k k0 (by omega)).1) (fun k k0 k1 => (r6 k k0 (by omega)).2.1) (fun k k0 k1 => (r6 k k0 (by omega)).2.2.1)
    obtain ⟨T2, eT2⟩ : ∃ T2 : gT, T2 = pinS T (fun c i => (c = y ∧ i = 0) ∨ c = y + 1 ∨ c = y + 2 ∨ c = y + 3) V6 := ⟨_, rfl⟩
    have th2 : TH T2 V6 := by rw [eT2]; exact ps_th th6
    have a2 : hA G R T2 y := by rw [eT2]; exact ps_hA a (fun i q => by omega)
    have n2 : ∀ c, c ≠ y → (c < y + 1 ∨ y + 3 < c) → T2 c = T c := fun c q1 q2 => by rw [eT2]; exact ps_n (fun i q => by omega)
    have k2 : ∀ (W : gV), TH T2 W → W y 0 = V6 y 0 ∧ (∀ i, W (y + 1) i = V6 (y + 1) i) ∧ (∀ i, W (y + 2) i = V6 (y + 2) i) ∧ ∀ i, W (y + 3) i = V6 (y + 3) i := fun W hW => by
      rw [eT2] at hW
      exact ⟨(hW y 0).2 (by omega), fun i => (hW (y + 1) i).2 (by omega), fun i => (hW (y + 2) i).2 (by omega), fun i => (hW (y + 3) i).2 (by omega)⟩
    have u2 : fT G R T2 f := fT_m u gX2_refl (fun _ => rfl) (fun c z1 z2 => n2 c (by omega) (by omega))
    have t2 : tT G R T2 x p n C D := by rw [eT2]; exact ps_tT t
    have cl2 : ∀ v, 0 ≤ v → v ≤ 300 → T2 y 1 v := fun v q1 q2 => by rw [eT2]; exact ⟨(bcl v).mpr ⟨q1, q2⟩, fun q => by omega⟩
    have so2 : ∀ i v, T2 (y + 11) i v ↔ 0 ≤ v ∧ v < 300 := by rw [n2 _ (by omega) (by omega)]; exact b.so
    have gt := tx.2.2.1
    have er : ∀ k, 0 ≤ k → k < V6 y 0 → hR V6 y k = hS V f (V6 (y + 11) k) := fun k k0 k1 => by
      have q := r6 k k0 (by omega)
      funext t
      show bt (V6 (y + 1) k) (V6 (y + 2) k) t = bt (V (f + 1) (V6 (y + 11) k)) (V (f + 2) (V6 (y + 11) k)) t
      rw [q.1, q.2.1, g6]
    have sr : ∀ k, 0 ≤ k → k < V6 y 0 → 0 ≤ V6 (y + 11) k ∧ V6 (y + 11) k < V f 0 := fun k k0 k1 => by rw [g6]; exact s51 k k0 (by omega)
    have sS : ∀ k, 0 ≤ k → k < V6 y 0 → SM (V0 x 1) (pMul V0 x p) (hR V6 y k) := fun k k0 k1 => (hf6.1.2.2.1 k k0 k1).1
    refine cw0_u (Nat.le_succ 2) (numberClasses_x a2 u2 th2 cl2 (fun i v z1 z2 => by rw [n2 _ (by omega) (by omega)]; exact (b.co i v).mpr ⟨z1, z2⟩) (by rw [n2 _ (by omega) (by omega)]; exact b.fi) (by rw [n2 _ (by omega) (by omega)]; exact b.nu) (by omega)) (fun V7 h7 => ?_)
    obtain ⟨th7, fr7, nc7⟩ := h7
    have cl7 : clX (V0 x 1) (V6 y 0) (V7 y 1) (pMul V0 x p) (iI V0 x) (hR V6 y) (fun h => V7 (y + 4) h) (fun c => V7 (y + 7) c) (fun c => V7 (y + 8) c) := by
      refine nc_cl gt sS (by omega) (nc_E nc7 (fun i j i0 i1 j0 j1 => ?_))
      have si := sr i i0 i1
      have sj := sr j j0 j1
      rw [f61 (f + 4) (V6 (y + 11) i) (by omega) (by omega), f61 (f + 4) (V6 (y + 11) j) (by omega) (by omega), fx.2.1.2.2 _ _ si.1 si.2 sj.1 sj.2, er i i0 i1, er j j0 j1]
    have y7 := (k2 V7 th7).1
    have hco : ∀ i, 0 ≤ i → i < V7 y 0 → V7 (y + 4) i < V7 y 1 := fun i i0 i1 => (cl7.2.1 i i0 (by omega)).1.2
    have hf7 : hfX (V0 x 1) (pMul V0 x p) V7 y := hfX_e y7 (k2 V7 th7).2.1 (k2 V7 th7).2.2.1 (k2 V7 th7).2.2.2 hf6
    obtain ⟨T3, eT3⟩ : ∃ T3 : gT, T3 = pinS T2 (fun c i => (c = y ∧ i = 1) ∨ c = y + 4 ∨ c = y + 7 ∨ c = y + 8 ∨ c = y + 11) V7 := ⟨_, rfl⟩
    have th3 : TH T3 V7 := by rw [eT3]; exact ps_th th7
    have s31 : ∀ c i v, T3 c i v → T2 c i v := fun c i v q => by rw [eT3] at q; exact q.1
    have a3 : hA G R T3 y := by rw [eT3]; exact ps_hA a2 (fun i q => by omega)
    have n3 : ∀ c, c ≠ y → c ≠ y + 4 → c ≠ y + 7 → c ≠ y + 8 → c ≠ y + 11 → T3 c = T2 c := fun c q1 q2 q3 q4 q5 => by rw [eT3]; exact ps_n (fun i q => by omega)
    have t3 : tT G R T3 x p n C D := by rw [eT3]; exact ps_tT t2
    have sK : ∀ v, T3 y 1 v → v = V7 y 1 := fun v q => by rw [eT3] at q; exact q.2 (by omega)
    have sN : ∀ v, T3 y 0 v → v = V6 y 0 := fun v q => by have q2 := s31 _ _ _ q; rw [eT2] at q2; exact q2.2 (by omega)
    have sC : ∀ i v, 0 ≤ i → i < V6 y 0 → T3 (y + 4) i v → v < V7 y 1 := fun i v z1 z2 q => by
      rw [eT3] at q
      rw [q.2 (by omega)]
      exact hco i z1 (by omega)
    have pt3 : ∀ c, ((x ≤ c ∧ c ≤ x + 7) ∨ c = p) → ∀ i v, T3 c i v → v = V0 c i := fun c hc i v q => by
      rw [n3 c (by omega) (by omega) (by omega) (by omega) (by omega), n2 c (by omega) (by omega)] at q
      exact pt c hc i v q
    refine cw0_u (by omega) (fillMadeBy_x a3 t3 hD th3 (by rw [n3 _ (by omega) (by omega) (by omega) (by omega) (by omega), n2 _ (by omega) (by omega)]; exact b.mb) tx pt3 hf7) (fun V8 h8 => ?_)
    obtain ⟨th8, fr8, mb8⟩ := h8
    have e87 : ∀ c i, c ≠ y + 5 → V8 c i = V7 c i := fun c i hc => fr8 c i hc
    have e76 : ∀ c i, c ≠ y → c ≠ y + 4 → c ≠ y + 7 → c ≠ y + 8 → V7 c i = V6 c i := fun c i q1 q2 q3 q4 => fr7 c i (by omega)
    have eh7 : hR V7 y = hR V6 y := funext (fun k => hR_c (e76 _ _ (by omega) (by omega) (by omega) (by omega)) (e76 _ _ (by omega) (by omega) (by omega) (by omega)))
    have eh8 : hR V8 y = hR V6 y := by
      rw [← eh7]
      exact funext (fun k => hR_c (e87 _ _ (by omega)) (e87 _ _ (by omega)))
    have cl := a3.cl _ (th8 y 1)
    have K8 := sK _ (th8 y 1)
    obtain ⟨K, eK⟩ : ∃ K, K = V7 y 1 := ⟨_, rfl⟩
    rw [← eK] at sK sC K8
    rw [K8] at cl
    obtain ⟨E2, q1, q2, q3, q4⟩ : ∃ E2 : Int, E ≤ E2 ∧ K ≤ E2 ∧ E2 ≤ 300 ∧ ((E2 = E ∧ K * K ≤ m) ∨ E2 = K) := by
      by_cases z : K ≤ E
      · exact ⟨E, by omega, z, by omega, Or.inl ⟨rfl, Int.le_trans (Int.mul_le_mul z z (by omega) (by omega)) em⟩⟩
      · exact ⟨K, by omega, by omega, by omega, Or.inr rfl⟩
    have o3 : ∀ i v, T3 o i v ↔ 0 ≤ v ∧ v ≤ 90000 := by rw [n3 _ (by omega) (by omega) (by omega) (by omega) (by omega), n2 _ (by omega) (by omega)]; exact b.ov
    have so6 : srtS (V0 x 1) (V6 y 0) (hR V6 y) := hf6.2.1
    have e7 : ∀ c, V8 (y + 7) c = V7 (y + 7) c := fun c => e87 _ _ (by omega)
    refine cw_mono (by omega) (fillOver_x a3 th8 sK sN sC ro go ho o3 ⟨q2, q3⟩ ?_ ?_ (Nt := V0 x 1) (by omega) (fun k k0 k1 => by rw [eh8]; exact hf6.2.2 k k0 k1) (fun c c0 c1 => by rw [e7]; exact (cl7.2.2.1 c c0 (by omega)).1) (fun c k c0 c1 k0 k1 => by rw [e7] at k1; rw [eh8, e7]; have q : 0 ≤ V7 (y + 7) c ∧ V7 (y + 7) c < V6 y 0 := (cl7.2.2.1 c c0 (by omega)).1; exact Lq_lt hf6.1 so6 (by omega) q ⟨k0, by have := q.2; omega⟩ k1)) (fun r G8 R8 V9 h8 => ?_)
    · intro z
      rcases q4 with q4 | q4
      · rw [q4.1]; exact em
      · rw [q4]; exact z
    · intro z
      rcases q4 with q4 | q4
      · omega
      · exact q4
    · obtain ⟨e1, o', m', eR, th9, h9, dj, fr9, ov9⟩ := h8
      have lx := (List.getElem?_eq_some_iff.mp (ly4_12 l).2).1
      have lp := (List.getElem?_eq_some_iff.mp t.gp).1
      have z1 : y + 11 < o' := by rcases dj with dj | dj <;> omega
      have z2 : p ≠ o' := by rcases dj with dj | dj <;> omega
      have hG8 : gX2 G G8 := by
        rcases dj with dj | dj
        · rw [dj.1]; exact gX2_refl
        · rw [dj.1]; exact gX2_app
      have t8 : tT G8 R8 (upT T3 o' (fun v => 0 ≤ v ∧ v ≤ 90000)) x p n C D := tT_m t3 hG8 (fun i => by rw [eR]; exact wr_a (by omega)) (fun c w1 w2 => upT_n (by omega)) (upT_n z2)
      have c8 := t8.ct _ (th9 x 1)
      have d8 := t8.d0
      have n5 : ∀ c, c ≠ o' → upT T3 o' (fun v => 0 ≤ v ∧ v ≤ 90000) c = T3 c := fun c q => upT_n q
      have sp5 : ∀ i v, upT T3 o' (fun v => 0 ≤ v ∧ v ≤ 90000) (y + 10) i v ↔ 0 ≤ v ∧ v ≤ 120 := by rw [n5 _ (by omega), n3 _ (by omega) (by omega) (by omega) (by omega) (by omega), n2 _ (by omega) (by omega)]; exact b.sp
      have si5 : ∀ i v, upT T3 o' (fun v => 0 ≤ v ∧ v ≤ 90000) (y + 9) i v := by rw [n5 _ (by omega), n3 _ (by omega) (by omega) (by omega) (by omega) (by omega), n2 _ (by omega) (by omega)]; exact b.si
      have e98 : ∀ c i, c ≠ o' → V9 c i = V8 c i := fun c i hc => fr9 c i hc
      have e97 : ∀ c i, c ≠ o' → c ≠ y + 5 → V9 c i = V7 c i := fun c i q1 q2 => (e98 c i q1).trans (e87 c i q2)
      have e96 : ∀ c i, c ≠ o' → c ≠ y + 5 → c ≠ y → c ≠ y + 4 → c ≠ y + 7 → c ≠ y + 8 → V9 c i = V6 c i := fun c i q1 q2 q3 q4 q5 q6 => (e97 c i q1 q2).trans (e76 c i q3 q4 q5 q6)
      have nx : V9 x 1 = V0 x 1 := by
        rw [e97 x 1 (by omega) (by omega)]
        exact pt3 x (by omega) _ _ (th3 x 1)
      have ps9 : ∀ c, 0 ≤ c → c < V9 y 1 → 1 ≤ V9 (y + 8) c ∧ 1 ≤ V9 (y + 3) (V9 (y + 7) c) := fun c c0 c1 => by
        rw [e97 y 1 (by omega) (by omega)] at c1
        rw [e97 (y + 8) c (by omega) (by omega), e97 (y + 7) c (by omega) (by omega), e96 (y + 3) _ (by omega) (by omega) (by omega) (by omega) (by omega) (by omega)]
        exact ⟨nu_p cl7 ⟨c0, c1⟩, (sz_p gt hf6.1 (cl7.2.2.1 c c0 c1).1).1⟩
      refine ⟨e1, ly6_o t8.ly, fun _ => ⟨ly4_o h9.a.ly, cw0_u (by omega) (fillSpare_x h9.a th9 (by omega) sp5 ps9) (fun V10 h10 => ?_)⟩⟩
      obtain ⟨th10, fr10, sp10⟩ := h10
      have e109 : ∀ c i, c ≠ y + 10 → V10 c i = V9 c i := fun c i hc => fr10 c i hc
      have ey1 : V10 y 1 = V7 y 1 := (e109 _ _ (by omega)).trans (e97 _ _ (by omega) (by omega))
      have ov10 : ∀ c e, 0 ≤ c → c < V7 y 1 → 0 ≤ e → e < V7 y 1 → V10 o' (c * V7 y 1 + e) = ov (V0 x 1) (V6 y 0) (hR V6 y) (fun h => V7 (y + 4) h) (fun c => V7 (y + 7) c) c e := fun c e c0 c1 e0 e1 => by
        have q := ov9 c e c0 (by omega) e0 (by omega)
        have f4 : (fun h => V8 (y + 4) h) = fun h => V7 (y + 4) h := funext (fun h => e87 _ _ (by omega))
        have f7 : (fun h => V8 (y + 7) h) = fun h => V7 (y + 7) h := funext (fun h => e87 _ _ (by omega))
        rw [eh8, f4, f7, eK] at q
        rw [e109 _ _ (by omega)]
        exact q
      refine ⟨ly4_o h9.a.ly, cw0_u (by omega) (fillSigns_x h9 th10 si5 (by omega) (O := fun c e => ov (V0 x 1) (V6 y 0) (hR V6 y) (fun h => V7 (y + 4) h) (fun c => V7 (y + 7) c) c e) (F := fun c => mu (V6 y 0) (Lq (V0 x 1) (hR V6 y)) (V7 (y + 7) c)) (fun c e c0 c1 e0 e1 => by rw [ey1] at c1 e1 ⊢; exact ov10 c e c0 c1 e0 e1) (fun c c0 c1 => by rw [ey1] at c1 ⊢; exact mu_cls gt hf6.1 so6 cl7 ⟨c0, c1⟩)) (fun V11 h11 => ?_)⟩
      obtain ⟨th11, fr11, sg11⟩ := h11
      have e1110 : ∀ c i, c ≠ y + 9 → V11 c i = V10 c i := fun c i hc => fr11 c i hc
      have e117 : ∀ c i, c ≠ y + 9 → c ≠ y + 10 → c ≠ o' → c ≠ y + 5 → V11 c i = V7 c i := fun c i q1 q2 q3 q4 => ((e1110 c i q1).trans (e109 c i q2)).trans (e97 c i q3 q4)
      refine ⟨rfl, pinS (upT T3 o' (fun v => 0 ≤ v ∧ v ≤ 90000)) (fun c i => (c = y ∧ (i = 0 ∨ i = 1)) ∨ (y + 1 ≤ c ∧ c ≤ y + 11 ∧ c ≠ y + 6) ∨ c = o') V11, o', m', E2, ps_th th11, ps_hT h9 (fun i q => by omega), z1, ?_, ?_, dj, ⟨fun c hc i v q => q.2 (by omega), fun v q => q.2 (by omega), fun v q => q.2 (by omega)⟩, ?_, ?_, ?_⟩
      · intro c w1 w2 w3
        rw [ps_n (fun i q => by omega), upT_n w3, n3 c (by omega) (by omega) (by omega) (by omega) (by omega), n2 c (by omega) (by omega)]
      · intro c i w
        rw [eR]
        rcases w with w | w
        · exact wr_a w
        · exact wr_i w
      · have thx : ∀ c i, c ≠ o' → T2 c i (V11 c i) := fun c i hc => by
          have := th11 c i
          rw [n5 c hc] at this
          exact s31 _ _ _ this
        have k11 : V11 y 0 = V6 y 0 ∧ (∀ i, V11 (y + 1) i = V6 (y + 1) i) ∧ (∀ i, V11 (y + 2) i = V6 (y + 2) i) ∧ ∀ i, V11 (y + 3) i = V6 (y + 3) i := by
          rw [eT2] at thx
          exact ⟨(thx y 0 (by omega)).2 (by omega), fun i => (thx (y + 1) i (by omega)).2 (by omega), fun i => (thx (y + 2) i (by omega)).2 (by omega), fun i => (thx (y + 3) i (by omega)).2 (by omega)⟩
        exact hfX_e k11.1 k11.2.1 k11.2.2.1 k11.2.2.2 hf6
      · have ex0 : V11 y 0 = V6 y 0 := (e117 _ _ (by omega) (by omega) (by omega) (by omega)).trans y7
        have ex1 : V11 y 1 = V7 y 1 := e117 _ _ (by omega) (by omega) (by omega) (by omega)
        have exh : hR V11 y = hR V6 y := by
          rw [← eh7]
          exact funext (fun k => hR_c (e117 _ _ (by omega) (by omega) (by omega) (by omega)) (e117 _ _ (by omega) (by omega) (by omega) (by omega)))
        have x4 : (fun h => V11 (y + 4) h) = fun h => V7 (y + 4) h := funext (fun h => e117 _ _ (by omega) (by omega) (by omega) (by omega))
        have x7 : (fun h => V11 (y + 7) h) = fun h => V7 (y + 7) h := funext (fun h => e117 _ _ (by omega) (by omega) (by omega) (by omega))
        have x8 : (fun h => V11 (y + 8) h) = fun h => V7 (y + 8) h := funext (fun h => e117 _ _ (by omega) (by omega) (by omega) (by omega))
        unfold hgX
        rw [ex0, ex1, exh, x4, x7, x8]
        refine ⟨cl7, fun c e c0 c1 e0 e1 => ?_, fun c c0 c1 => ?_, fun c c0 c1 => ?_, fun t t0 t1 => ?_⟩
        · rw [e1110 _ _ (by omega)]; exact ov10 c e c0 c1 e0 e1
        · have q := sp10 c c0 (by rw [e97 _ _ (by omega) (by omega)]; exact c1)
          rw [e1110 _ _ (by omega), q, nx, e97 (y + 8) c (by omega) (by omega), e97 (y + 7) c (by omega) (by omega), e97 (y + 3) _ (by omega) (by omega), e117 (y + 8) c (by omega) (by omega) (by omega) (by omega), e117 (y + 7) c (by omega) (by omega) (by omega) (by omega), e117 (y + 3) _ (by omega) (by omega) (by omega) (by omega)]
        · rw [e117 (y + 7) c (by omega) (by omega) (by omega) (by omega)]
          exact sg11 c c0 (by rw [ey1]; exact c1)
        · have q := mb8 t t0 t1
          rw [eh7, y7] at q
          rw [e1110 _ _ (by omega), e109 _ _ (by omega), e98 _ _ (by omega)]
          exact q
      · intro qd hq
        obtain ⟨TT, eTT⟩ : ∃ TT : gT, TT = pinS (upT T3 o' (fun v => 0 ≤ v ∧ v ≤ 90000)) (fun c i => (c = y ∧ (i = 0 ∨ i = 1)) ∨ (y + 1 ≤ c ∧ c ≤ y + 11 ∧ c ≠ y + 6) ∨ c = o') V11 := ⟨_, rfl⟩
        have thT : TH TT V11 := by rw [eTT]; exact ps_th th11
        have hTT : hT G8 R8 TT y o' m' E2 := by rw [eTT]; exact ps_hT h9 (fun i q => by omega)
        have d6 : ∀ i v, TT (y + 6) i v ↔ -1 ≤ v ∧ v < 300 := fun i v => by
          rw [eTT, ps_n (fun i q => by omega), upT_n (by omega), n3 _ (by omega) (by omega) (by omega) (by omega) (by omega), n2 _ (by omega) (by omega)]
          exact b.de i v
        have ex0 : V11 y 0 = V6 y 0 := (e117 _ _ (by omega) (by omega) (by omega) (by omega)).trans y7
        have v6 : ∀ i, 0 ≤ i → i < V11 y 0 → V11 (y + 6) i = -1 := fun i i0 i1 => by
          rw [e117 _ _ (by omega) (by omega) (by omega) (by omega), e76 _ _ (by omega) (by omega) (by omega) (by omega)]
          exact (r6 i i0 (by omega)).2.2.2
        obtain ⟨TD, eTD⟩ : ∃ TD : gT, TD = fun c i v => TT c i v ∧ (c = y + 6 → 0 ≤ i → i < V11 y 0 → v = -1 ∨ v = qd i) := ⟨_, rfl⟩
        have nD : ∀ c, c ≠ y + 6 → TD c = TT c := fun c hc => by
          rw [eTD]
          funext i v
          exact propext ⟨fun q => q.1, fun q => ⟨q, fun z => absurd z hc⟩⟩
        refine ⟨TD, fun c i => ?_, hT.mk (hA.mk hTT.a.ly (by rw [nD _ (by omega)]; exact hTT.a.cn) (by rw [nD _ (by omega)]; exact hTT.a.cl) (by rw [nD _ (by omega)]; exact hTT.a.sz) (by rw [nD _ (by omega)]; exact hTT.a.co) (by rw [nD _ (by omega)]; exact hTT.a.mb) (fun i v q => ?_) (by rw [nD _ (by omega)]; exact hTT.a.fi) (by rw [nD _ (by omega)]; exact hTT.a.nu) (by rw [nD _ (by omega)]; exact hTT.a.sp) (by rw [nD _ (by omega)]; exact hTT.a.so)) hTT.ro hTT.go hTT.e0 hTT.em (by rw [nD _ (by omega)]; exact hTT.cE) (by rw [nD _ (by omega)]; exact hTT.ov), fun c hc => by rw [nD c hc, eTT], fun i i0 i1 => ?_⟩
        · rw [eTD]
          exact ⟨thT c i, fun z i0 i1 => Or.inl (by rw [z]; exact v6 i i0 i1)⟩
        · rw [eTD] at q
          exact (d6 i v).mp q.1
        · have := hq i i0 i1
          rw [eTD]
          exact ⟨⟨(d6 i _).mpr (by omega), fun _ _ _ => Or.inr rfl⟩, fun v q => q.2 rfl i0 i1⟩
  · have hlt : h < V f 0 := by omega
    have sg := s51 h b01.1 hlt
    have so : ∀ (W : gV), TH T W → 0 ≤ W (y + 11) h ∧ W (y + 11) h < 300 := fun W hW => (b.so _ _).mp (hW _ _)
    have th2 : TH T (wr V6 (y + 1) h (V6 (f + 1) (V6 (y + 11) h))) := TH_wr th6 (b.lo _ _)
    have th3 := TH_wr th2 (b.hi h (wr V6 (y + 1) h (V6 (f + 1) (V6 (y + 11) h)) (f + 2) (wr V6 (y + 1) h (V6 (f + 1) (V6 (y + 11) h)) (y + 11) h)))
    have s1 := so _ th6
    have s2 := so _ th2
    have s3 := so _ th3
    refine ⟨y + 1, (ly4_2 l).1, ly3_o lf, f + 1, (ly3_1 lf).1, y + 11, (ly4_12 l).1, 300, (ly4_12 l).2, by omega, fun _ => ⟨300, (ly3_1 lf).2, s1, fun _ => ⟨300, (ly4_2 l).2, by omega, y + 2, (ly4_3 l).1, f + 2, (ly3_2 lf).1, fun _ => ⟨300, (ly3_2 lf).2, s2, fun _ => ⟨300, (ly4_3 l).2, by omega, y + 3, (ly4_4 l).1, f + 3, (ly3_3 lf).1, fun _ => ⟨300, (ly3_3 lf).2, s3, fun _ => ⟨300, (ly4_4 l).2, by omega, y + 6, (ly4_7 l).1, 300, (ly4_7 l).2, by omega, by omega, ih _ _ ⟨TH_wr (TH_wr th3 ((b.sz _ _).mpr ((u.sz _ _).mp (th3 _ _)))) ((b.de _ _).mpr (by omega)), by omega, Fr_w (Fr_w (Fr_w (Fr_w f6 (by omega)) (by omega)) (by omega)) (by omega), fun k k0 k1 => ?_⟩ (by omega)⟩⟩⟩⟩⟩⟩⟩
    have v11 : ∀ i, V6 (y + 11) i = V5 (y + 11) i := g6
    by_cases q : k = h
    · rw [q]
      refine ⟨?_, ?_, ?_, ?_⟩
      · rw [wr_a (by omega), wr_a (by omega), wr_a (by omega), wr_same, v11, f61 _ _ (by omega) (by omega)]
      · rw [wr_a (by omega), wr_a (by omega), wr_same, wr_a (by omega), wr_a (by omega), v11, f61 _ _ (by omega) (by omega)]
      · rw [wr_a (by omega), wr_same, wr_a (by omega), wr_a (by omega), wr_a (by omega), wr_a (by omega), v11, f61 _ _ (by omega) (by omega)]
      · rw [wr_same]
    · have r := r6 k k0 (by omega)
      refine ⟨?_, ?_, ?_, ?_⟩
      · rw [wr_a (by omega), wr_a (by omega), wr_a (by omega), wr_i q]; exact r.1
      · rw [wr_a (by omega), wr_a (by omega), wr_i q, wr_a (by omega)]; exact r.2.1
      · rw [wr_a (by omega), wr_i q, wr_a (by omega), wr_a (by omega)]; exact r.2.2.1
      · rw [wr_i q, wr_a (by omega), wr_a (by omega), wr_a (by omega)]; exact r.2.2.2
end
