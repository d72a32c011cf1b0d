/-! in how many heaps of each class the first of a class lies -/
section
variable {G : List gS} {R V : gV} {T : gT} {y o m x p n f : Nat} {C D E : Int}
theorem fillOver_x (h : hA G R T y) (th : TH T V) {K N : Int} (hK : ∀ v, T y 1 v → v = K) (hN : ∀ v, T y 0 v → v = N) (hco : ∀ i v, 0 ≤ i → i < N → T (y + 4) i v → v < K) (ro : R y 13 = (o : Int)) (go : G[o]? = some (gA 0 m)) (ho : y + 11 < o) (hov : ∀ i v, T o i v ↔ 0 ≤ v ∧ v ≤ 90000) (hE : K ≤ E ∧ E ≤ 300) (c1 : K * K ≤ m → E * E ≤ m) (c2 : (m : Int) < K * K → E = K) {Nt : Int} (hNt : Nt ≤ 128) (zz : ∀ k, 0 ≤ k → k < N → ∀ t, Nt ≤ t → t < 128 → hR V y k t = 0) (fo_r : ∀ c, 0 ≤ c → c < K → 0 ≤ V (y + 7) c ∧ V (y + 7) c < N) (lo0 : ∀ c k, 0 ≤ c → c < K → 0 ≤ k → k < V (y + 7) c → Lq Nt (hR V y) (V (y + 7) c) k = 0) : cw 2 (fun r G' R' V' => r = none ∧ ∃ o' m' : Nat, R' = wr R y 13 (o' : Int) ∧ TH (upT T o' (fun v => 0 ≤ v ∧ v ≤ 90000)) V' ∧ hT G' R' (upT T o' (fun v => 0 ≤ v ∧ v ≤ 90000)) y o' m' E ∧ gR G o m G' o' m' 180000 ∧ Fr (fun c _ => c = o') V V' ∧ ∀ c e, 0 ≤ c → c < K → 0 ≤ e → e < K → V' o' (c * K + e) = ov Nt N (hR V y) (fun h => V (y + 4) h) (fun c => V (y + 7) c) c e) 78 [(4, (y : Int))] G R V := by
  refine cw_fr (fun _ fr => ?_)
  have cl := h.cl _ (th y 1)
  have hK1 := hK _ (th y 1)
  have k0 : 0 ≤ K ∧ K ≤ 300 := by omega
  have sq : 0 ≤ K * K ∧ K * K ≤ 300 * 300 := ⟨Int.mul_nonneg (by omega) (by omega), Int.mul_le_mul (by omega) (by omega) (by omega) (by omega)⟩
  refine c_X4_fillOver (t_X4_fillOver_0 ⟨ly4_o h.ly, o, ro, fun _ => ?_⟩)
  rw [hK1]
  refine ⟨by omega, ?_⟩
  refine cw_mono (by omega) (roomFor_k go (by omega)) (fun r G1 R1 V1 hr => ?_)
  obtain ⟨o', e1, eR, eV, hr⟩ := hr
  subst eR eV
  have lx := (List.getElem?_eq_some_iff.mp (ly4_12 h.ly).2).1
  have hG : gX2 G G1 := by
    rcases hr with hr | ⟨l', hr, _⟩
    · rw [hr.1]; exact gX2_refl
    · rw [hr]; exact gX2_app
  have ho' : y + 11 < o' := by
    rcases hr with hr | ⟨l', hr⟩ <;> omega
  obtain ⟨m', go', km, em, dj⟩ : ∃ m' : Nat, G1[o']? = some (gA 0 m') ∧ K * K ≤ m' ∧ E * E ≤ m' ∧ gR G o m G1 o' m' 180000 := by
    rcases hr with hr | ⟨l', hr⟩
    · exact ⟨m, by rw [hr.1, hr.2.1]; exact go, hr.2.2, c1 hr.2.2, Or.inl ⟨hr.1, hr.2.1, rfl⟩⟩
    · refine ⟨l', ?_, hr.2.2.2.1, ?_, Or.inr ⟨hr.1, hr.2.1, by omega, by omega⟩⟩
      · rw [hr.1, hr.2.1, List.getElem?_append_right (Nat.le_refl _), Nat.sub_self]; rfl
      · rw [c2 hr.2.2.1]; exact hr.2.2.2.1
  have th' : TH (upT T o' (fun v => 0 ≤ v ∧ v ≤ 90000)) V1 := by
    refine TH_upT th (fun i => ?_)
    rcases hr with hr | ⟨l', hr⟩
    · rw [hr.2.1]; exact (hov _ _).mp (th o i)
    · rw [hr.2.1, (fr _ i (Nat.le_refl _)).1]; omega
  have tc : ∀ j, y ≤ j → j ≤ y + 11 → upT T o' (fun v => 0 ≤ v ∧ v ≤ 90000) j = T j := fun j h1 h2 => upT_n (by omega)
  have t' : hT G1 (wr R1 y 13 (o' : Int)) (upT T o' (fun v => 0 ≤ v ∧ v ≤ 90000)) y o' m' E :=
    hT.mk (hA_m h hG (fun i z => wr_i z) tc) (wr_same _ _ _ _) go' ⟨by omega, hE.2⟩ em (fun v hv => by rw [tc y (by omega) (by omega)] at hv; have := hK _ hv; omega) (fun i v => upT_s.mp)
  have ov' : ∀ i v, upT T o' (fun v => 0 ≤ v ∧ v ≤ 90000) o' i v ↔ 0 ≤ v ∧ v ≤ 90000 := fun i v => upT_s
  refine ⟨o', e1, hG _ _ (ly4_o h.ly), ?_⟩
  refine wp_mono (Q := fun r G' R' V' => G' = G1 ∧ R' = wr R1 y 13 (o' : Int) ∧ (r = none ∧ TH (upT T o' (fun v => 0 ≤ v ∧ v ≤ 90000)) V' ∧ Fr (fun c _ => c = o') V1 V' ∧ ∀ c e, 0 ≤ c → c < K → 0 ≤ e → e < K → V' o' (c * K + e) = ov Nt N (hR V1 y) (fun h => V1 (y + 4) h) (fun c => V1 (y + 7) c) c e)) (fun r G2 R2 V2 h2 => ⟨h2.2.2.1, o', m', h2.2.1, h2.2.2.2.1, by rw [h2.1, h2.2.1]; exact t', by rw [h2.1]; exact dj, h2.2.2.2.2.1, h2.2.2.2.2.2⟩) ?_
  have hK' : ∀ v, upT T o' (fun v => 0 ≤ v ∧ v ≤ 90000) y 1 v → v = K := by rw [tc y (by omega) (by omega)]; exact hK
  have hN' : ∀ v, upT T o' (fun v => 0 ≤ v ∧ v ≤ 90000) y 0 v → v = N := by rw [tc y (by omega) (by omega)]; exact hN
  have hco' : ∀ i v, 0 ≤ i → i < N → upT T o' (fun v => 0 ≤ v ∧ v ≤ 90000) (y + 4) i v → v < K := by rw [tc (y + 4) (by omega) (by omega)]; exact hco
  clear th fr hK1 cl
  generalize upT T o' (fun v => 0 ≤ v ∧ v ≤ 90000) = T' at *
  have l := t'.a.ly
  refine loop1 (f := fun a => [some (4, (y : Int)), some (0, a)]) (Inv := fun a V => TH T' V ∧ 0 ≤ a ∧ a ≤ 90000 ∧ Fr (fun c _ => c = o') V1 V ∧ ∀ j, 0 ≤ j → j < a → V o' j = 0) (μ := fun a _ => (90000 - a).toNat) (fun a V hv ih => ?_) 0 _ ⟨th', by omega, by omega, Fr_0, fun j j0 j1 => by omega⟩
  obtain ⟨th, h0, h1, fr1, h2⟩ := hv
  have eK := hK' _ (th y 1)
  refine t_X4_fillOver_22 ⟨ly4_o l, fun _ => ?_⟩
  rw [eK]
  refine ⟨by omega, by omega, fun ha => ?_, fun ha => ⟨o', t'.ro, m', go', by omega, by omega, ih _ _ ⟨TH_wr th ((ov' _ _).mpr (by omega)), by omega, by omega, Fr_w fr1 rfl, fun j j0 j1 => ?_⟩ (by omega)⟩⟩
  · refine loop1 (f := fun c => [some (4, (y : Int)), some (0, c)]) (Inv := fun c V => TH T' V ∧ 0 ≤ c ∧ c ≤ 300 ∧ (∀ j, 0 ≤ j → j < K * K → V o' j ≤ c * 300) ∧ Fr (fun c _ => c = o') V1 V ∧ (∀ c' e, 0 ≤ c' → c' < c → c' < K → 0 ≤ e → e < K → V o' (c' * K + e) = ov Nt N (hR V1 y) (fun h => V1 (y + 4) h) (fun c => V1 (y + 7) c) c' e) ∧ ∀ c' e, c ≤ c' → c' < K → 0 ≤ e → e < K → V o' (c' * K + e) = 0) (μ := fun c _ => (300 - c).toNat) (fun c V2 hv2 ih2 => ?_) 0 V ⟨th, by omega, by omega, fun j j0 j1 => by rw [h2 j j0 (by omega)]; omega, fr1, fun c' e q0 q1 => by omega, fun c' e q0 q1 e0 e1 => ?_⟩
    · clear ih h2 ha eK fr1
      obtain ⟨th, c0, c1', c2', fr2, dn, zr⟩ := hv2
      have eK := hK' _ (th y 1)
      have f1 := (t'.a.fi _ _).mp (th (y + 7) c)
      have ef : V2 (y + 7) c = V1 (y + 7) c := fr2 _ _ (by omega)
      refine t_X4_fillOver_50 ⟨ly4_o l, fun _ => ⟨by omega, fun hc => ⟨rfl, rfl, rfl, th, fr2, fun c' e q0 q1 e0 e1 => dn c' e q0 (by omega) q1 e0 e1⟩, fun hc => ⟨y + 7, (ly4_8 l).1, 300, (ly4_8 l).2, by omega, fun _ => ?_⟩⟩⟩
      have hcK : c < K := by omega
      have fr_ := fo_r c c0 hcK
      refine loop1 (f := fun b => [some (4, (y : Int)), some (0, c), some (0, b)]) (Inv := fun b V => TH T' V ∧ (0 ≤ b ∧ b ≤ N) ∧ b ≤ 300 ∧ (∀ j, 0 ≤ j → j < K * K → V o' j ≤ c * 300 + b) ∧ Fr (fun c _ => c = o') V1 V ∧ (∀ c' e, 0 ≤ c' → c' < K → c' ≠ c → 0 ≤ e → e < K → V o' (c' * K + e) = V2 o' (c' * K + e)) ∧ ∀ e, 0 ≤ e → e < K → V o' (c * K + e) = sm (fun k => bi (V1 (y + 4) k = e) * Lq Nt (hR V1 y) (V1 (y + 7) c) k) b.toNat) (μ := fun b _ => (300 - b).toNat) (fun b V3 hv3 ih3 => ?_) _ V2 ⟨th, by omega, by omega, fun j j0 j1 => by have := c2' j j0 j1; omega, fr2, fun _ _ _ _ _ _ _ => rfl, fun e e0 e1 => ?_⟩
      · clear th eK
        obtain ⟨th, b0, b1, b2, fr3, ot, rw_⟩ := hv3
        have eK := hK' _ (th y 1)
        have eN := hN' _ (th y 0)
        have cn := t'.a.cn _ (th y 0)
        have f2 := (t'.a.fi _ _).mp (th (y + 7) c)
        have co := t'.a.co _ _ (th (y + 4) b)
        have ef3 : V3 (y + 7) c = V1 (y + 7) c := fr3 _ _ (by omega)
        have ec3 : V3 (y + 4) b = V1 (y + 4) b := fr3 _ _ (by omega)
        have eh3 : hR V3 y = hR V1 y := funext (fun k => hR_c (fr3 _ _ (by omega)) (fr3 _ _ (by omega)))
        refine t_X4_fillOver_65 ⟨ly4_o l, fun _ => ⟨by omega, fun hb => ⟨by omega, ih2 _ _ ⟨th, by omega, by omega, fun j j0 j1 => by have := b2 j j0 j1; omega, fr3, fun c' e q0 q1 q2 e0 e1 => ?_, fun c' e q0 q1 e0 e1 => ?_⟩ (by omega)⟩, fun hb => ⟨y + 7, (ly4_8 l).1, 300, (ly4_8 l).2, by omega, fun _ => ?_⟩⟩⟩
        · by_cases q : c' = c
          · rw [q, rw_ e e0 e1, show b = N by omega]
            rfl
          · rw [ot c' e q0 q2 q e0 e1]; exact dn c' e q0 (by omega) q2 e0 e1
        · rw [ot c' e (by omega) q1 (by omega) e0 e1]; exact zr c' e (by omega) q1 e0 e1
        have ck := hco' b _ b0.1 (by omega) (th (y + 4) b)
        have q := idxo (n := m') (a := c) (C := E) (N := K) (b := V3 (y + 4) b) (by omega) (by omega) (by omega) hE.2 em
        have q2 := idxo (n := (K * K).toNat) (a := c) (C := K) (N := K) (b := V3 (y + 4) b) (by omega) (by omega) (by omega) (by omega) (by omega)
        have bb := b2 (c * K + V3 (y + 4) b) (by omega) (by omega)
        have ob := (t'.ov _ _).mp (th o' (c * K + V3 (y + 4) b))
        have st := fun e => sm_s (fun k => bi (V1 (y + 4) k = e) * Lq Nt (hR V1 y) (V1 (y + 7) c) k) b0.1
        rw [ef3]
        have lc := liesIn_e (V := V3) (N := Nt) t'.a.ly hNt (a := V1 (y + 7) c) (b := b) (by omega) (by omega) (by rw [eh3]; exact zz _ fr_.1 fr_.2)
        rw [eh3] at lc
        refine cpI_u (by omega) lc ⟨bi32 _, fun v0 => ⟨by omega, ih3 _ _ ⟨th, by omega, by omega, fun j j0 j1 => by have := b2 j j0 j1; omega, fr3, ot, fun e e0 e1 => ?_⟩ (by omega)⟩, fun v1 => ⟨o', t'.ro, fun _ => ?_⟩⟩
        · rw [st e]
          (try dsimp only)
          rw [v0, Int.mul_zero, Int.add_zero]; exact rw_ e e0 e1
        rw [eK]
        refine ⟨by omega, y + 4, (ly4_5 l).1, 300, (ly4_5 l).2, by omega, fun _ => ⟨by omega, m', go', by omega, fun _ => ⟨by omega, by omega, ih3 _ _ ⟨TH_wr th ((ov' _ _).mpr (by omega)), by omega, by omega, fun j j0 j1 => ?_, Fr_w fr3 rfl, fun c' e q0 q1 q3 e0 e1 => ?_, fun e e0 e1 => ?_⟩ (by omega)⟩⟩⟩
        · by_cases e : j = c * K + V3 (y + 4) b
          · rw [e, wr_same]; omega
          · rw [wr_i e]; have := b2 j j0 j1; omega
        · rw [wr_i (fun w => q3 (idx_inj ⟨e0, e1⟩ ⟨by omega, ck⟩ w).1)]; exact ot c' e q0 q1 q3 e0 e1
        · have l1 : Lq Nt (hR V1 y) (V1 (y + 7) c) b = 1 := by
            rcases bi_01 (sub1 Nt (hR V1 y (V1 (y + 7) c)) (hR V1 y b)) with w | w
            · exact absurd w v1
            · exact w
          rw [st e]
          (try dsimp only)
          rw [l1, Int.mul_one]
          by_cases w : V3 (y + 4) b = e
          · rw [← w, wr_same, rw_ _ (by omega) ck, bi_t ec3.symm]
          · rw [wr_i (fun w2 => w (idx_inj ⟨e0, e1⟩ ⟨by omega, ck⟩ w2).2.symm), rw_ e e0 e1, bi_f (fun w2 => w (ec3.trans w2)), Int.add_zero]
      · rw [zr c e (by omega) hcK e0 e1, ef]
        refine (sm_zz (fun k k0 k1 => ?_)).symm
        (try dsimp only)
        rw [lo0 c k c0 hcK k0 (by omega), Int.mul_zero]
    · have q2 := idxo (n := (K * K).toNat) (a := c') (C := K) (N := K) (b := e) (by omega) (by omega) (by omega) (by omega) (by omega)
      exact h2 _ (by omega) (by omega)
  · by_cases e : j = a
    · rw [e, wr_same]
    · rw [wr_i e]; exact h2 j j0 (by omega)
end
