/-! the heaps found, put in order -/
section
variable {G : List gS} {R V V0 : gV} {T : gT} {f x p n y o m : Nat} {C D E N : Int}
theorem isAhead_x (ly : lay3 G R f) (hN : N ≤ 128) {a b : Int} (ha : 0 ≤ a ∧ a < 300) (hb : 0 ≤ b ∧ b < 300) (sa : V (f + 3) a = sm (hS V f a) N.toNat) (sb : V (f + 3) b = sm (hS V f b) N.toNat) (za : ∀ t, N ≤ t → t < 128 → hS V f a t = 0) : cpI 1 (bi (ahd N (hS V f a) (hS V f b))) 40 [(4, (f : Int)), (0, a), (0, b)] G R V := by
  refine c_X3_isAhead (t_X3_isAhead_0 ly ⟨ha, fun _ => ⟨hb, fun _ => ⟨fun e _ _ => ⟨fun z _ _ => ⟨fun q => ⟨?_, rfl⟩, fun q => ⟨?_, rfl⟩⟩, fun z => ⟨fun q => ⟨?_, rfl⟩, fun q => ⟨?_, rfl⟩⟩⟩, fun e => ⟨fun q => ⟨?_, rfl⟩, fun q => ⟨?_, rfl⟩⟩⟩⟩⟩)
  · rw [bi_f]
    rintro (h | ⟨_, h⟩)
    · omega
    · exact (ah_high z za hN).mpr h q
  · rw [bi_t]
    exact Or.inr ⟨by omega, (ah_high z za hN).mp q⟩
  · rw [bi_f]
    rintro (h | ⟨_, h⟩)
    · omega
    · exact (ah_low z za).mpr h q
  · rw [bi_t]
    exact Or.inr ⟨by omega, (ah_low z za).mp q⟩
  · rw [bi_f]
    rintro (h | ⟨h, _⟩)
    · omega
    · omega
  · rw [bi_t]
    exact Or.inl (by omega)
/-- in order, by numbers of those found -/
def soX (V V' : gV) (f y : Nat) (N H : Int) : Prop := (∀ k, 0 ≤ k → k < H → 0 ≤ V' (y + 11) k ∧ V' (y + 11) k < H) ∧ ∀ a b, 0 ≤ a → a < b → b < H → ahd N (hS V f (V' (y + 11) a)) (hS V f (V' (y + 11) b))
theorem sortFound_x (hl : lay4 G R y) (u : fT G R T f) (th : TH T V) (so : ∀ i v, T (y + 11) i v ↔ 0 ≤ v ∧ v < 300) (hfy : f + 11 < y) (hn : 1 ≤ V y 0 ∧ V y 0 ≤ 300) (hN : N ≤ 128) (sz : ∀ k, 0 ≤ k → k < V y 0 → V (f + 3) k = sm (hS V f k) N.toNat) (zz : ∀ k, 0 ≤ k → k < V y 0 → ∀ t, N ≤ t → t < 128 → hS V f k t = 0) (ds : ∀ i j, 0 ≤ i → i < j → j < V y 0 → ¬ req N (hS V f i) (hS V f j)) : cwv 2 (fun r V' => r = none ∧ (TH T V' ∧ Fr (fun c _ => c = y + 11) V V' ∧ soX V V' f y N (V y 0))) 74 [(4, (y : Int)), (4, (f : Int))] G R V := by
  refine c_X4_sortFound (t_X4_sortFound_0 hl u.ly ?_)
  refine loop1 (f := fun i => [some (4, (y : Int)), some (4, (f : Int)), some (0, i)]) (Inv := fun i V1 => TH T V1 ∧ Fr (fun c _ => c = y + 11) V V1 ∧ (0 ≤ i ∧ i ≤ V y 0) ∧ (∀ k, 0 ≤ k → k < i → 0 ≤ V1 (y + 11) k ∧ V1 (y + 11) k < i) ∧ ∀ a b, 0 ≤ a → a < b → b < i → ahd N (hS V f (V1 (y + 11) a)) (hS V f (V1 (y + 11) b))) (μ := fun i _ => (300 - i).toNat) (fun i V1 hi ih => ?_) 0 V ⟨th, Fr_0, by omega, fun k k0 k1 => by omega, fun a b a0 ab b1 => by omega⟩
  obtain ⟨th1, fr, i0, r1, o1⟩ := hi
  have ey : V1 y 0 = V y 0 := fr _ _ (by omega)
  refine t_X4_sortFound_2 hl u.ly (fun _ => ⟨by omega, fun z => ⟨rfl, th1, fr, fun k k0 k1 => by have := r1 k k0 (by omega); omega, fun a b a0 ab b1 => o1 a b a0 ab (by omega)⟩, fun z => ?_⟩)
  rw [ey] at z
  refine loop1 (f := fun j => [some (4, (y : Int)), some (4, (f : Int)), some (0, i), some (0, j)]) (Inv := fun j V2 => TH T V2 ∧ Fr (fun c _ => c = y + 11) V V2 ∧ (0 ≤ j ∧ j ≤ i) ∧ (∀ k, 0 ≤ k → k < j → V2 (y + 11) k = V1 (y + 11) k) ∧ (∀ k, j < k → k ≤ i → V2 (y + 11) k = V1 (y + 11) (k - 1)) ∧ ∀ k, j ≤ k → k < i → ahd N (hS V f i) (hS V f (V1 (y + 11) k))) (μ := fun j _ => j.toNat) (fun j V2 hj ih2 => ?_) i V1 ⟨th1, fr, by omega, fun _ _ _ => rfl, fun k k0 k1 => by omega, fun k k0 k1 => by omega⟩
  obtain ⟨th2, fr2, j0, p1, p2, p3⟩ := hj
  have put : (0 < j → ahd N (hS V f (V1 (y + 11) (j - 1))) (hS V f i)) → (∀ k, 0 ≤ k → k < i + 1 → 0 ≤ wr V2 (y + 11) j i (y + 11) k ∧ wr V2 (y + 11) j i (y + 11) k < i + 1) ∧ ∀ a b, 0 ≤ a → a < b → b < i + 1 → ahd N (hS V f (wr V2 (y + 11) j i (y + 11) a)) (hS V f (wr V2 (y + 11) j i (y + 11) b)) := by
    intro hj
    have w1 : ∀ k, 0 ≤ k → k < j → wr V2 (y + 11) j i (y + 11) k = V1 (y + 11) k := fun k k0 k1 => by rw [wr_i (by omega)]; exact p1 k k0 k1
    have w2 : wr V2 (y + 11) j i (y + 11) j = i := wr_same _ _ _ _
    have w3 : ∀ k, j < k → k ≤ i → wr V2 (y + 11) j i (y + 11) k = V1 (y + 11) (k - 1) := fun k k0 k1 => by rw [wr_i (by omega)]; exact p2 k k0 k1
    have low : ∀ a, 0 ≤ a → a < j → ahd N (hS V f (V1 (y + 11) a)) (hS V f i) := fun a a0 a1 => by
      by_cases q : a = j - 1
      · rw [q]; exact hj (by omega)
      · exact ah_tr (o1 a (j - 1) a0 (by omega) (by omega)) (hj (by omega))
    refine ⟨fun k k0 k1 => ?_, fun a b a0 ab b1 => ?_⟩
    · by_cases y1 : k < j
      · rw [w1 k k0 y1]; have := r1 k k0 (by omega); omega
      · by_cases y2 : k = j
        · rw [y2, w2]; omega
        · rw [w3 k (by omega) (by omega)]; have := r1 (k - 1) (by omega) (by omega); omega
    · by_cases y1 : a < j
      · rw [w1 a a0 y1]
        by_cases y2 : b < j
        · rw [w1 b (by omega) y2]; exact o1 a b a0 ab (by omega)
        · by_cases y3 : b = j
          · rw [y3, w2]; exact low a a0 y1
          · rw [w3 b (by omega) (by omega)]; exact o1 a (b - 1) a0 (by omega) (by omega)
      · by_cases y2 : a = j
        · rw [y2, w2, w3 b (by omega) (by omega)]; exact p3 (b - 1) (by omega) (by omega)
        · rw [w3 a (by omega) (by omega), w3 b (by omega) (by omega)]; exact o1 (a - 1) (b - 1) (by omega) (by omega) (by omega)
  refine t_X4_sortFound_12 hl u.ly ⟨by omega, fun q => ⟨by omega, by omega, by omega, ih _ _ ⟨TH_wr th2 ((so _ _).mpr (by omega)), Fr_w fr2 rfl, by omega, (put (fun w => absurd w q)).1, (put (fun w => absurd w q)).2⟩ (by omega)⟩, fun q => ⟨by omega, by omega, fun _ => ?_⟩⟩
  have pj := p1 (j - 1) (by omega) (by omega)
  have rj := r1 (j - 1) (by omega) (by omega)
  have hs2 : ∀ k, hS V2 f k = hS V f k := fun k => hS_c (fr2 _ _ (by omega)) (fr2 _ _ (by omega))
  have s3 : ∀ k, V2 (f + 3) k = V (f + 3) k := fun k => fr2 _ _ (by omega)
  rw [pj]
  refine cpI_u (by omega) (isAhead_x (V := V2) (N := N) u.ly hN (a := i) (b := V1 (y + 11) (j - 1)) (by omega) (by omega) (by rw [s3, hs2]; exact sz i (by omega) (by omega)) (by rw [s3, hs2]; exact sz _ rj.1 (by omega)) (by rw [hs2]; exact zz i (by omega) (by omega))) ⟨bi32 _, fun v0 => ⟨by omega, by omega, by omega, ih _ _ ?_ (by omega)⟩, fun v1 _ => ⟨by omega, by omega, ih2 _ _ ⟨TH_wr th2 ((so _ _).mpr (by omega)), Fr_w fr2 rfl, by omega, fun k k0 k1 => ?_, fun k k0 k1 => ?_, fun k k0 k1 => ?_⟩ (by omega)⟩⟩
  · have na := bi_0.mp v0
    rw [hs2, hs2] at na
    have pa := put (fun _ => by
      rcases ah_tot (A := hS V f i) (B := hS V f (V1 (y + 11) (j - 1))) (N := N) (fun t _ _ => bt_01 _ _ _) (fun t _ _ => bt_01 _ _ _) (fun e => ds (V1 (y + 11) (j - 1)) i rj.1 rj.2 (by omega) (req_s e)) with w | w
      · exact absurd w na
      · exact w)
    exact ⟨TH_wr th2 ((so _ _).mpr (by omega)), Fr_w fr2 rfl, by omega, pa.1, pa.2⟩
  · rw [wr_i (by omega)]; exact p1 k k0 (by omega)
  · by_cases w : k = j
    · rw [w, wr_same]; exact pj
    · rw [wr_i w]; exact p2 k (by omega) k1
  · by_cases w : k = j - 1
    · have ya := bi_nz v1
      rw [hs2, hs2] at ya
      rw [w]; exact ya
    · exact p3 k (by omega) k1
end
/-! cells held to what they hold -/
def pinS (T : gT) (S : Nat → Int → Prop) (V : gV) : gT := fun c i v => T c i v ∧ (S c i → v = V c i)
section
variable {G : List gS} {R V V0 : gV} {T : gT} {S : Nat → Int → Prop} {f x p n y o m : Nat} {C D E : Int}
theorem ps_th (th : TH T V) : TH (pinS T S V) V := fun c i => ⟨th c i, fun _ => rfl⟩
theorem ps_1 {c : Nat} {i v : Int} (h : pinS T S V c i v) : T c i v := h.1
theorem ps_n {c : Nat} (h : ∀ i, ¬ S c i) : pinS T S V c = T c := by
  funext i v
  exact propext ⟨fun q => q.1, fun q => ⟨q, fun z => absurd z (h i)⟩⟩
theorem ps_hA (h : hA G R T y) (hs : ∀ i, ¬ S (y + 6) i) : hA G R (pinS T S V) y := hA.mk h.ly (fun v q => h.cn v q.1) (fun v q => h.cl v q.1) (fun i v q => h.sz i v q.1) (fun i v q => h.co i v q.1) (fun i v q => h.mb i v q.1) (fun i v q => h.de i v q.1) (fun i v q => h.fi i v q.1) (fun i v q => h.nu i v q.1) (fun i v q => h.sp i v q.1) (fun i v q => h.so i v q.1)
theorem ps_hT (h : hT G R T y o m E) (hs : ∀ i, ¬ S (y + 6) i) : hT G R (pinS T S V) y o m E := hT.mk (ps_hA h.a hs) h.ro h.go h.e0 h.em (fun v q => h.cE v q.1) (fun i v q => h.ov i v q.1)
theorem ps_tT (t : tT G R T x p n C D) : tT G R (pinS T S V) x p n C D := tT.mk (tA.mk t.ly t.c0 t.d0 (fun v q => t.pl v q.1) (fun v q => t.ct v q.1) (fun v q => t.mm v q.1) (fun i v q => t.iv i v q.1) (fun i v q => t.od i v q.1) (fun i v q => t.st i v q.1) (fun i v q => t.re i v q.1)) t.rp t.gp t.cn (fun i v q => t.pr i v q.1)
/-- the heaps, as their rows tell them -/
abbrev hR (V : gV) (y : Nat) (k : Int) : Int → Int := fun t => bt (V (y + 1) k) (V (y + 2) k) t
def hfX (N : Int) (mul : Int → Int → Int) (V : gV) (y : Nat) : Prop := hpsP N (V y 0) mul (hR V y) (fun k => V (y + 3) k) ∧ (∀ a b, 0 ≤ a → a < b → b < V y 0 → ahd N (hR V y a) (hR V y b)) ∧ ∀ k, 0 ≤ k → k < V y 0 → ∀ t, N ≤ t → t < 128 → hR V y k t = 0
def pnY (T : gT) (y o : Nat) (V : gV) : Prop := (∀ c, ((y + 1 ≤ c ∧ c ≤ y + 11 ∧ c ≠ y + 6) ∨ c = o) → ∀ i v, T c i v → v = V c i) ∧ (∀ v, T y 0 v → v = V y 0) ∧ (∀ v, T y 1 v → v = V y 1)
def flX (G : List gS) (R : gV) (T : gT) (y o m : Nat) (N : Int) (mul : Int → Int → Int) (G' : List gS) (R' V' : gV) : Prop := ∃ (T' : gT) (o' m' : Nat) (E' : Int), TH T' V' ∧ hT G' R' T' y o' m' E' ∧ y + 11 < o' ∧ (∀ c, (c < y ∨ y + 11 < c) → c ≠ o → c ≠ o' → T' c = T c) ∧ (∀ c i, (c ≠ y ∨ i ≠ 13) → R' c i = R c i) ∧ gR G o m G' o' m' 180000 ∧ pnY T' y o' V' ∧ hfX N mul V' y
theorem hR_c {V V' : gV} {y : Nat} {k : Int} (e1 : V' (y + 1) k = V (y + 1) k) (e2 : V' (y + 2) k = V (y + 2) k) : hR V' y k = hR V y k := hS_c e1 e2
theorem hfX_e {N : Int} {mul : Int → Int → Int} {V V' : gV} {y : Nat} (e0 : V' y 0 = V y 0) (e1 : ∀ i, V' (y + 1) i = V (y + 1) i) (e2 : ∀ i, V' (y + 2) i = V (y + 2) i) (e3 : ∀ i, V' (y + 3) i = V (y + 3) i) (h : hfX N mul V y) : hfX N mul V' y := by
  have eh : hR V' y = hR V y := funext (fun k => hR_c (e1 k) (e2 k))
  have es : (fun k => V' (y + 3) k) = fun k => V (y + 3) k := funext e3
  unfold hfX
  rw [e0, eh, es]
  exact h
/-- the rows of those found, in order, are the rows of the heaps -/
theorem hf_ok {N H : Int} {V V' : gV} (tx : tX V0 x p) (fx : fnX V0 V f x p) (hH : H = V f 0) (hN : N = V0 x 1) {σ : Int → Int} (s1 : ∀ k, 0 ≤ k → k < H → 0 ≤ σ k ∧ σ k < H) (s2 : ∀ a b, 0 ≤ a → a < b → b < H → ahd N (hS V f (σ a)) (hS V f (σ b))) (e0 : V' y 0 = H) (e1 : ∀ k, 0 ≤ k → k < H → V' (y + 1) k = V (f + 1) (σ k)) (e2 : ∀ k, 0 ≤ k → k < H → V' (y + 2) k = V (f + 2) (σ k)) (e3 : ∀ k, 0 ≤ k → k < H → V' (y + 3) k = V (f + 3) (σ k)) : hfX N (pMul V0 x p) V' y := by
  obtain ⟨st, sz, all⟩ := fx
  have h1 := st.1.1
  have er : ∀ k, 0 ≤ k → k < H → hR V' y k = hS V f (σ k) := fun k k0 k1 => by
    funext t
    show bt (V' (y + 1) k) (V' (y + 2) k) t = bt (V (f + 1) (σ k)) (V (f + 2) (σ k)) t
    rw [e1 k k0 k1, e2 k k0 k1]
  have inj : ∀ i j, 0 ≤ i → i < H → 0 ≤ j → j < H → σ i = σ j → i = j := by
    intro i j i0 i1 j0 j1 e
    apply Classical.byContradiction
    intro ne
    by_cases q : i < j
    · exact ah_irr (fun _ _ _ => by rw [e]) (s2 i j i0 q j1)
    · exact ah_irr (fun _ _ _ => by rw [e]) (s2 j i j0 (by omega) i1)
  subst hN
  refine ⟨⟨by omega, by omega, fun k k0 k1 => ?_, fun W hW => ?_, fun i j i0 i1 j0 j1 e => ?_⟩, fun a b a0 ab b1 => ?_, fun k k0 k1 => ?_⟩
  · rw [e0] at k1
    have r := s1 k k0 k1
    (try dsimp only)
    rw [er k k0 k1, e3 k k0 k1]
    exact ⟨(st.1.2.1 _ r.1 (by omega)).1, sz.1 _ r.1 (by omega)⟩
  · obtain ⟨k, k0, k1, k2⟩ := all W hW
    obtain ⟨h, h0, h2, h3⟩ := pig (φ := σ) (n := H) (by omega) s1 inj k0 (by omega)
    exact ⟨h, h0, by omega, by rw [er h h0 h2, h3]; exact k2⟩
  · rw [e0] at i1 j1
    rw [er i i0 i1, er j j0 j1] at e
    apply Classical.byContradiction
    intro ne
    by_cases q : i < j
    · exact ah_irr e (s2 i j i0 q j1)
    · exact ah_irr (req_s e) (s2 j i j0 (by omega) i1)
  · rw [e0] at b1
    rw [er a a0 (by omega), er b (by omega) b1]
    exact s2 a b a0 ab b1
  · rw [e0] at k1
    have r := s1 k k0 k1
    rw [er k k0 k1]
    exact (st.1.2.1 _ r.1 (by omega)).2
end
