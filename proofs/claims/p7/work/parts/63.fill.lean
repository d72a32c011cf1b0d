/-! heaps are filled -/
section
variable {G : List gS} {R V : gV} {T : gT} {y o m x p n f : Nat} {C D E : Int}
def flP (G : List gS) (R : gV) (T : gT) (y o m : Nat) (G' : List gS) (R' V' : gV) : Prop := ∃ (T' : gT) (o' m' : Nat) (E' : Int), TH T' V' ∧ hT G' R' T' y o' m' E' ∧ y + 11 < o' ∧ (∀ c, (c < y ∨ y + 11 < c) → c ≠ o → c ≠ o' → T' c = T c) ∧ (∀ c i, (c ≠ y ∨ i ≠ 13) → R' c i = R c i) ∧ gR G o m G' o' m' 180000
theorem fillOver_k (h : hA G R T y) (th : TH T V) {K N : Int} (hK : ∀ v, T y 1 v → v = K) (hN : ∀ v, T y 0 v → v = N) (hco : ∀ i v, 0 ≤ i → i < N → T (y + 4) i v → v < K) (ro : R y 13 = (o : Int)) (go : G[o]? = some (gA 0 m)) (ho : y + 11 < o) (ov : ∀ i v, T o i v ↔ 0 ≤ v ∧ v ≤ 90000) (hE : K ≤ E ∧ E ≤ 300) (c1 : K * K ≤ m → E * E ≤ m) (c2 : (m : Int) < K * K → E = K) : cw 2 (fun r G' R' V' => r = none ∧ ∃ o' m' : Nat, R' = wr R y 13 (o' : Int) ∧ TH (upT T o' (fun v => 0 ≤ v ∧ v ≤ 90000)) V' ∧ hT G' R' (upT T o' (fun v => 0 ≤ v ∧ v ≤ 90000)) y o' m' E ∧ gR G o m G' o' m' 180000) 78 [(4, (y : Int))] G R V := by
  refine cw_fr (fun _ fr => ?_)
  have cl := h.cl _ (th y 1)
  have hK1 := hK _ (th y 1)
  have k0 : 0 ≤ K ∧ K ≤ 300 := by omega
  have sq : 0 ≤ K * K ∧ K * K ≤ 300 * 300 := ⟨Int.mul_nonneg (by omega) (by omega), Int.mul_le_mul (by omega) (by omega) (by omega) (by omega)⟩
  refine c_X4_fillOver (t_X4_fillOver_0 ⟨ly4_o h.ly, o, ro, fun _ => ?_⟩)
  rw [hK1]
  refine ⟨by omega, ?_⟩
  refine cw_mono (by omega) (roomFor_k go (by omega)) (fun r G1 R1 V1 hr => ?_)
  obtain ⟨o', e1, eR, eV, hr⟩ := hr
  subst eR eV
  have lx := (List.getElem?_eq_some_iff.mp (ly4_12 h.ly).2).1
  have hG : gX2 G G1 := by
    rcases hr with hr | ⟨l', hr, _⟩
    · rw [hr.1]; exact gX2_refl
    · rw [hr]; exact gX2_app
  have ho' : y + 11 < o' := by
    rcases hr with hr | ⟨l', hr⟩ <;> omega
  obtain ⟨m', go', km, em, dj⟩ : ∃ m' : Nat, G1[o']? = some (gA 0 m') ∧ K * K ≤ m' ∧ E * E ≤ m' ∧ gR G o m G1 o' m' 180000 := by
    rcases hr with hr | ⟨l', hr⟩
    · exact ⟨m, by rw [hr.1, hr.2.1]; exact go, hr.2.2, c1 hr.2.2, Or.inl ⟨hr.1, hr.2.1, rfl⟩⟩
    · refine ⟨l', ?_, hr.2.2.2.1, ?_, Or.inr ⟨hr.1, hr.2.1, by omega, by omega⟩⟩
      · rw [hr.1, hr.2.1, List.getElem?_append_right (Nat.le_refl _), Nat.sub_self]; rfl
      · rw [c2 hr.2.2.1]; exact hr.2.2.2.1
  have th' : TH (upT T o' (fun v => 0 ≤ v ∧ v ≤ 90000)) V1 := by
    refine TH_upT th (fun i => ?_)
    rcases hr with hr | ⟨l', hr⟩
    · rw [hr.2.1]; exact (ov _ _).mp (th o i)
    · rw [hr.2.1, (fr _ i (Nat.le_refl _)).1]; omega
  have tc : ∀ j, y ≤ j → j ≤ y + 11 → upT T o' (fun v => 0 ≤ v ∧ v ≤ 90000) j = T j := fun j h1 h2 => upT_n (by omega)
  have t' : hT G1 (wr R1 y 13 (o' : Int)) (upT T o' (fun v => 0 ≤ v ∧ v ≤ 90000)) y o' m' E :=
    hT.mk (hA_m h hG (fun i z => wr_i z) tc) (wr_same _ _ _ _) go' ⟨by omega, hE.2⟩ em (fun v hv => by rw [tc y (by omega) (by omega)] at hv; have := hK _ hv; omega) (fun i v => upT_s)
  refine ⟨o', e1, hG _ _ (ly4_o h.ly), ?_⟩
  refine wp_mono (Q := fun r G' R' V' => G' = G1 ∧ R' = wr R1 y 13 (o' : Int) ∧ (r = none ∧ TH (upT T o' (fun v => 0 ≤ v ∧ v ≤ 90000)) V')) (fun r G2 R2 V2 h2 => ⟨h2.2.2.1, o', m', h2.2.1, h2.2.2.2, by rw [h2.1, h2.2.1]; exact t', by rw [h2.1]; exact dj⟩) ?_
  have hK' : ∀ v, upT T o' (fun v => 0 ≤ v ∧ v ≤ 90000) y 1 v → v = K := by rw [tc y (by omega) (by omega)]; exact hK
  have hN' : ∀ v, upT T o' (fun v => 0 ≤ v ∧ v ≤ 90000) y 0 v → v = N := by rw [tc y (by omega) (by omega)]; exact hN
  have hco' : ∀ i v, 0 ≤ i → i < N → upT T o' (fun v => 0 ≤ v ∧ v ≤ 90000) (y + 4) i v → v < K := by rw [tc (y + 4) (by omega) (by omega)]; exact hco
  clear th fr hK1 cl
  generalize upT T o' (fun v => 0 ≤ v ∧ v ≤ 90000) = T' at *
  have l := t'.a.ly
  refine loop1 (f := fun a => [some (4, (y : Int)), some (0, a)]) (Inv := fun a V => TH T' V ∧ 0 ≤ a ∧ a ≤ 90000 ∧ ∀ j, 0 ≤ j → j < a → V o' j = 0) (μ := fun a _ => (90000 - a).toNat) (fun a V hv ih => ?_) 0 _ ⟨th', by omega, by omega, fun j j0 j1 => by omega⟩
  obtain ⟨th, h0, h1, h2⟩ := hv
  have eK := hK' _ (th y 1)
  refine t_X4_fillOver_22 ⟨ly4_o l, fun _ => ?_⟩
  rw [eK]
  refine ⟨by omega, by omega, fun ha => ?_, fun ha => ⟨o', t'.ro, m', go', by omega, by omega, ih _ _ ⟨TH_wr th ((t'.ov _ _).mpr (by omega)), by omega, by omega, fun j j0 j1 => ?_⟩ (by omega)⟩⟩
  · refine loop1 (f := fun c => [some (4, (y : Int)), some (0, c)]) (Inv := fun c V => TH T' V ∧ 0 ≤ c ∧ c ≤ 300 ∧ ∀ j, 0 ≤ j → j < K * K → V o' j ≤ c * 300) (μ := fun c _ => (300 - c).toNat) (fun c V2 hv2 ih2 => ?_) 0 V ⟨th, by omega, by omega, fun j j0 j1 => by rw [h2 j j0 (by omega)]; omega⟩
    clear ih h2 ha eK
    obtain ⟨th, c0, c1', c2'⟩ := hv2
    have eK := hK' _ (th y 1)
    have f1 := (t'.a.fi _ _).mp (th (y + 7) c)
    refine t_X4_fillOver_50 ⟨ly4_o l, fun _ => ⟨by omega, fun _ => ⟨rfl, rfl, rfl, th⟩, fun hc => ⟨y + 7, (ly4_8 l).1, 300, (ly4_8 l).2, by omega, fun _ => ?_⟩⟩⟩
    have hcK : c < K := by omega
    refine loop1 (f := fun b => [some (4, (y : Int)), some (0, c), some (0, b)]) (Inv := fun b V => TH T' V ∧ 0 ≤ b ∧ b ≤ 300 ∧ ∀ j, 0 ≤ j → j < K * K → V o' j ≤ c * 300 + b) (μ := fun b _ => (300 - b).toNat) (fun b V3 hv3 ih3 => ?_) _ V2 ⟨th, by omega, by omega, fun j j0 j1 => by have := c2' j j0 j1; omega⟩
    clear th eK
    obtain ⟨th, b0, b1, b2⟩ := hv3
    have eK := hK' _ (th y 1)
    have eN := hN' _ (th y 0)
    have cn := t'.a.cn _ (th y 0)
    have f2 := (t'.a.fi _ _).mp (th (y + 7) c)
    have co := t'.a.co _ _ (th (y + 4) b)
    refine t_X4_fillOver_65 ⟨ly4_o l, fun _ => ⟨by omega, fun _ => ⟨by omega, ih2 _ _ ⟨th, by omega, by omega, fun j j0 j1 => by have := b2 j j0 j1; omega⟩ (by omega)⟩, fun hb => ⟨y + 7, (ly4_8 l).1, 300, (ly4_8 l).2, by omega, fun _ => ?_⟩⟩⟩
    have ck := hco' b _ b0 (by omega) (th (y + 4) b)
    have q := idxo (n := m') (a := c) (C := E) (N := K) (b := V3 (y + 4) b) (by omega) (by omega) (by omega) hE.2 em
    have q2 := idxo (n := (K * K).toNat) (a := c) (C := K) (N := K) (b := V3 (y + 4) b) (by omega) (by omega) (by omega) (by omega) (by omega)
    have bb := b2 (c * K + V3 (y + 4) b) (by omega) (by omega)
    have ob := (t'.ov _ _).mp (th o' (c * K + V3 (y + 4) b))
    refine pI_u (liesIn_k t'.a (by omega) (by omega)) (fun v hv => ⟨by omega, fun _ => ⟨by omega, ih3 _ _ ⟨th, by omega, by omega, fun j j0 j1 => by have := b2 j j0 j1; omega⟩ (by omega)⟩, fun _ => ⟨o', t'.ro, fun _ => ?_⟩⟩)
    rw [eK]
    refine ⟨by omega, y + 4, (ly4_5 l).1, 300, (ly4_5 l).2, by omega, fun _ => ⟨by omega, m', go', by omega, fun _ => ⟨by omega, by omega, ih3 _ _ ⟨TH_wr th ((t'.ov _ _).mpr (by omega)), by omega, by omega, fun j j0 j1 => ?_⟩ (by omega)⟩⟩⟩
    by_cases e : j = c * K + V3 (y + 4) b
    · rw [e, wr_same]; omega
    · rw [wr_i e]; have := b2 j j0 j1; omega
  · by_cases e : j = a
    · rw [e, wr_same]
    · rw [wr_i e]; exact h2 j j0 (by omega)
theorem fill_k (h : hT G R T y o m E) (u : fT G R T f) (t : tT G R T x p n C D) (hD : D ≤ C) (th : TH T V) (h1 : 1 ≤ V f 0) (ho : y + 11 < o) (hx : x + 9 = y) (hp : x + 7 < p) (hpo : p ≠ o) (hpy : p < y ∨ y + 11 < p) (hf : f + 11 < x) : cw 4 (fun r G' R' V' => r = none ∧ flP G R T y o m G' R' V') 73 [(4, (y : Int)), (4, (f : Int)), (4, (x : Int))] G R V := by
  obtain ⟨T1, eT⟩ : ∃ T1, T1 = upF (upF (upT T (y + 4) (fun v => 0 ≤ v ∧ v < 300)) y 0 (fun v => 1 ≤ v ∧ v ≤ 300)) y 1 (fun v => 0 ≤ v ∧ v ≤ 300) := ⟨_, rfl⟩
  have k0 : ∀ c, c ≠ y → c ≠ y + 4 → T1 c = T c := fun c z1 z2 => by rw [eT, upF_n z1, upF_n z1, upT_n z2]
  have kc : ∀ v, T1 y 0 v ↔ 1 ≤ v ∧ v ≤ 300 := fun v => by rw [eT, upF_i (by omega)]; exact upF_s
  have kl : ∀ v, T1 y 1 v ↔ 0 ≤ v ∧ v ≤ 300 := fun v => by rw [eT]; exact upF_s
  have k4 : ∀ i v, T1 (y + 4) i v ↔ 0 ≤ v ∧ v < 300 := fun i v => by rw [eT, upF_n (by omega), upF_n (by omega)]; exact upT_s
  have th1 : TH T1 V := by
    rw [eT]
    exact TH_upF (TH_upF (TH_upT th (fun i => h.a.co _ _ (th (y + 4) i))) (h.a.cn _ (th y 0))) (h.a.cl _ (th y 1))
  have a1 : hA G R T1 y := by
    refine hA.mk h.a.ly (fun v => (kc v).mp) (fun v => (kl v).mp) ?_ ?_ ?_ (fun i v => (k4 i v).mp) ?_ ?_ ?_ ?_ ?_ ?_ ?_
    · rw [k0 _ (by omega) (by omega)]; exact h.a.lo
    · rw [k0 _ (by omega) (by omega)]; exact h.a.hi
    · rw [k0 _ (by omega) (by omega)]; exact h.a.sz
    · rw [k0 _ (by omega) (by omega)]; exact h.a.mb
    · rw [k0 _ (by omega) (by omega)]; exact h.a.de
    · rw [k0 _ (by omega) (by omega)]; exact h.a.fi
    · rw [k0 _ (by omega) (by omega)]; exact h.a.nu
    · rw [k0 _ (by omega) (by omega)]; exact h.a.si
    · rw [k0 _ (by omega) (by omega)]; exact h.a.sp
    · rw [k0 _ (by omega) (by omega)]; exact h.a.so
  have u1 : fT G R T1 f := fT_m u gX2_refl (fun _ => rfl) (fun c z1 z2 => k0 c (by omega) (by omega))
  have t1 : tT G R T1 x p n C D := tT_m t gX2_refl (fun _ => rfl) (fun c z1 z2 => k0 c (by omega) (by omega)) (k0 p (by omega) (by omega))
  have o1 : ∀ i v, T1 o i v ↔ 0 ≤ v ∧ v ≤ 90000 := by rw [k0 o (by omega) (by omega)]; exact h.ov
  have fc := (u.cn _).mp (th f 0)
  clear eT th
  refine c_X4_fill (t_X4_fill_0 ⟨ly3_o u.ly, fun _ => ⟨ly4_o a1.ly, ?_⟩⟩)
  refine w0_u (sortFound_k a1 u1 (TH_wr th1 ((kc _).mpr ⟨h1, fc.2⟩))) (fun V5 th5 => ?_)
  refine loop1g (f := fun a => [some (4, (y : Int)), some (4, (f : Int)), some (4, (x : Int)), some (0, a)]) (Inv := fun a V => TH T1 V ∧ 0 ≤ a ∧ a ≤ 300) (μ := fun a _ => (300 - a).toNat) (fun a V hv ih => ?_) 0 V5 ⟨th5, by omega, by omega⟩
  obtain ⟨th, b0, b1⟩ := hv
  have cn := a1.cn _ (th y 0)
  have l := a1.ly
  have lf := u1.ly
  have so : ∀ (W : gV), TH T1 W → 0 ≤ W (y + 11) a ∧ W (y + 11) a < 300 := fun W hW => (a1.so _ _).mp (hW _ _)
  refine t_X4_fill_15 ⟨ly4_o l, fun _ => ⟨by omega, fun ha => ?_, fun ha => ?_⟩⟩
  · refine cw0_u (Nat.le_succ 2) (numberClasses_k a1 u1 th (fun v z1 z2 => (kl v).mpr ⟨z1, z2⟩) (fun i v z1 z2 => (k4 i v).mpr ⟨z1, z2⟩)) (fun V6 h6 => ?_)
    obtain ⟨th6, hco⟩ := h6
    have cl := a1.cl _ (th6 y 1)
    obtain ⟨N, eN⟩ : ∃ N, N = V6 y 0 := ⟨_, rfl⟩
    obtain ⟨K, eK⟩ : ∃ K, K = V6 y 1 := ⟨_, rfl⟩
    rw [← eK] at cl
    rw [← eN, ← eK] at hco
    obtain ⟨T2, eT⟩ : ∃ T2 : gT, T2 = fun c i v => T1 c i v ∧ (c = y ∧ i = 0 → v = N) ∧ (c = y ∧ i = 1 → v = K) ∧ (c = y + 4 ∧ 0 ≤ i ∧ i < N → v < K) := ⟨_, rfl⟩
    have s0 : ∀ c, c ≠ y → c ≠ y + 4 → T2 c = T1 c := fun c z1 z2 => by
      funext i v
      rw [eT]
      exact propext ⟨fun z => z.1, fun z => ⟨z, fun q => absurd q.1 z1, fun q => absurd q.1 z1, fun q => absurd q.1 z2⟩⟩
    have s1 : ∀ c i v, T2 c i v → T1 c i v := fun c i v z => by rw [eT] at z; exact z.1
    have sN : ∀ v, T2 y 0 v → v = N := fun v z => by rw [eT] at z; exact z.2.1 ⟨rfl, rfl⟩
    have sK : ∀ v, T2 y 1 v → v = K := fun v z => by rw [eT] at z; exact z.2.2.1 ⟨rfl, rfl⟩
    have sC : ∀ i v, 0 ≤ i → i < N → T2 (y + 4) i v → v < K := fun i v z1 z2 z => by rw [eT] at z; exact z.2.2.2 ⟨rfl, z1, z2⟩
    have th2 : TH T2 V6 := fun c i => by
      rw [eT]
      exact ⟨th6 c i, fun q => by rw [q.1, q.2]; exact eN.symm, fun q => by rw [q.1, q.2]; exact eK.symm, fun q => by rw [q.1]; exact hco i q.2.1 q.2.2⟩
    have a2 : hA G R T2 y := by
      refine hA.mk h.a.ly (fun v z => (kc v).mp (s1 _ _ _ z)) (fun v z => (kl v).mp (s1 _ _ _ z)) ?_ ?_ ?_ (fun i v z => (k4 i v).mp (s1 _ _ _ z)) ?_ ?_ ?_ ?_ ?_ ?_ ?_
      · rw [s0 _ (by omega) (by omega)]; exact a1.lo
      · rw [s0 _ (by omega) (by omega)]; exact a1.hi
      · rw [s0 _ (by omega) (by omega)]; exact a1.sz
      · rw [s0 _ (by omega) (by omega)]; exact a1.mb
      · rw [s0 _ (by omega) (by omega)]; exact a1.de
      · rw [s0 _ (by omega) (by omega)]; exact a1.fi
      · rw [s0 _ (by omega) (by omega)]; exact a1.nu
      · rw [s0 _ (by omega) (by omega)]; exact a1.si
      · rw [s0 _ (by omega) (by omega)]; exact a1.sp
      · rw [s0 _ (by omega) (by omega)]; exact a1.so
    have t2 : tT G R T2 x p n C D := tT_m t1 gX2_refl (fun _ => rfl) (fun c z1 z2 => s0 c (by omega) (by omega)) (s0 p (by omega) (by omega))
    have o2 : ∀ i v, T2 o i v ↔ 0 ≤ v ∧ v ≤ 90000 := by rw [s0 o (by omega) (by omega)]; exact o1
    clear eT
    have e0 := h.e0
    obtain ⟨E2, q1, q2, q3, q4⟩ : ∃ E2 : Int, E ≤ E2 ∧ K ≤ E2 ∧ E2 ≤ 300 ∧ ((E2 = E ∧ K * K ≤ m) ∨ E2 = K) := by
      by_cases z : K ≤ E
      · exact ⟨E, by omega, z, by omega, Or.inl ⟨rfl, Int.le_trans (Int.mul_le_mul z z (by omega) (by omega)) h.em⟩⟩
      · exact ⟨K, by omega, by omega, by omega, Or.inr rfl⟩
    refine w0_u (fillMadeBy_k a2 t2 hD th2) (fun V7 th7 => cw_mono (by omega) (fillOver_k a2 th7 sK sN sC h.ro h.go ho o2 ⟨q2, q3⟩ ?_ ?_) (fun r G8 R8 V8 h8 => ?_))
    · intro z
      rcases q4 with q4 | q4
      · rw [q4.1]; exact h.em
      · rw [q4]; exact z
    · intro z
      rcases q4 with q4 | q4
      · omega
      · exact q4
    · obtain ⟨e1, o', m', eR, th8, h8, dj⟩ := h8
      have lx := (List.getElem?_eq_some_iff.mp (ly4_12 h.a.ly).2).1
      have lp := (List.getElem?_eq_some_iff.mp t.gp).1
      have z1 : y + 11 < o' := by rcases dj with dj | dj <;> omega
      have z2 : p ≠ o' := by rcases dj with dj | dj <;> omega
      have hG8 : gX2 G G8 := by
        rcases dj with dj | dj
        · rw [dj.1]; exact gX2_refl
        · rw [dj.1]; exact gX2_app
      have t8 : tT G8 R8 (upT T2 o' (fun v => 0 ≤ v ∧ v ≤ 90000)) x p n C D := tT_m t2 hG8 (fun i => by rw [eR]; exact wr_a (by omega)) (fun c w1 w2 => upT_n (by omega)) (upT_n z2)
      have c8 := t8.ct _ (th8 x 1)
      have d8 := t8.d0
      refine ⟨e1, ly6_o t8.ly, fun _ => ⟨ly4_o h8.a.ly, w0_u (fillSpare_k h8.a th8 (by omega)) (fun V9 th9 => ⟨ly4_o h8.a.ly, w0_u (fillSigns_k h8 th9) (fun V10 th10 => ⟨rfl, _, o', m', E2, th10, h8, z1, ?_, ?_, dj⟩)⟩)⟩⟩
      · intro c w1 w2 w3
        rw [upT_n w3, s0 c (by omega) (by omega), k0 c (by omega) (by omega)]
      · intro c i w
        rw [eR]
        rcases w with w | w
        · exact wr_a w
        · exact wr_i w
  · have th2 : TH T1 (wr V (y + 1) a (V (f + 1) (V (y + 11) a))) := TH_wr th (a1.lo _ _)
    have th3 := TH_wr th2 (a1.hi a (wr V (y + 1) a (V (f + 1) (V (y + 11) a)) (f + 2) (wr V (y + 1) a (V (f + 1) (V (y + 11) a)) (y + 11) a)))
    have s1 := so _ th
    have s2 := so _ th2
    have s3 := so _ th3
    refine ⟨y + 1, (ly4_2 l).1, ly3_o lf, f + 1, (ly3_1 lf).1, y + 11, (ly4_12 l).1, 300, (ly4_12 l).2, by omega, fun _ => ⟨300, (ly3_1 lf).2, s1, fun _ => ⟨300, (ly4_2 l).2, by omega, y + 2, (ly4_3 l).1, f + 2, (ly3_2 lf).1, fun _ => ⟨300, (ly3_2 lf).2, s2, fun _ => ⟨300, (ly4_3 l).2, by omega, y + 3, (ly4_4 l).1, f + 3, (ly3_3 lf).1, fun _ => ⟨300, (ly3_3 lf).2, s3, fun _ => ⟨300, (ly4_4 l).2, by omega, y + 6, (ly4_7 l).1, 300, (ly4_7 l).2, by omega, by omega, ih _ _ ⟨TH_wr (TH_wr th3 ((a1.sz _ _).mpr ((u1.sz _ _).mp (th3 _ _)))) ((a1.de _ _).mpr (by omega)), by omega, by omega⟩ (by omega)⟩⟩⟩⟩⟩⟩⟩
end
