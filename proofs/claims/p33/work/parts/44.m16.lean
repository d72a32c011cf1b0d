section
variable {d : Nat} {G : List gS} {R V : gV} {M : Nat}
def gmX (V : gV) (M : Nat) (n v : Int) : Prop := (¬ (1 ≤ n ∧ n ≤ 8) ∧ v = -1) ∨ ((1 ≤ n ∧ n ≤ 8) ∧ ∃ (V5 : gV) (w : Int), gaX V V5 M n w ∧ ((w < 0 ∧ v = w) ∨ (w = 0 ∧ ∃ Vc : gV, imP (fun i => V5 (M + 7) i) Vc M n (V5 M 10) ∧ (∀ s t, 0 ≤ s → s < V5 M 10 → 0 ≤ t → t < V5 M 10 → prP Vc M n (V5 M 10) s t) ∧ ((v = V5 M 10 ∧ ¬ tooMany (V5 M 10) (mMul Vc M)) ∨ (v = -5 ∧ tooMany (V5 M 10) (mMul Vc M))))))
def grX (V V' : gV) (M : Nat) (n v : Int) : Prop := (∀ a i, (M + 27 ≤ a ∨ (a = M ∧ i = 37)) → a ≤ M + 35 → V' a i = V a i) ∧ ((v < 0 → V' M 35 = V M 35) ∧ (0 ≤ v → V' M 35 = 0)) ∧ ((v < 0 ∧ V' M 4 = V M 4 ∧ V' M 5 = V M 5 ∧ ∀ k p, 0 ≤ k → k < V M 5 → 0 ≤ p → p < V M 4 → V' (M + 4) (8 * k + p) = V (M + 4) (8 * k + p)) ∨ (v = V' M 5 ∧ (1 ≤ n ∧ n ≤ 8) ∧ V' M 4 = n ∧ ∃ V5 : gV, gaX V V5 M n 0 ∧ V5 M 10 = V' M 5 ∧ ∀ k p, 0 ≤ k → k < V5 M 10 → 0 ≤ p → p < n → V' (M + 4) (8 * plc (fun i => V5 (M + 7) i) n (V5 M 10) k + p) = V5 (M + 7) (8 * k + p)))
theorem gr_q {V' : gV} {n v : Int} (hv : v < 0) (q : qF V V' M) : grX V V' M n v := ⟨fun a i a0 a1 => q.2.2.2 a i a0 a1, ⟨fun _ => q.2.2.1, fun z => by omega⟩, Or.inl ⟨hv, q.1 _ _ (by omega), q.1 _ _ (by omega), fun k p _ _ _ _ => q.1 _ _ (by omega)⟩⟩
theorem mgroup_c (ly : lay8 G R M) (hM : MI V M) (vr : VR G V) {n : Int} (h1 : i32 n) : cwv 6 (fun r V' => ∃ v, r = some (0, v) ∧ ((gmX V M n v ∧ grX V V' M n v) ∧ mP V V' M)) 181 [(4, (M : Int)), (0, n)] G R V := by
  have gN := GC_N hM.2.1
  refine c_X8_group (t_X8_group_0 ly ⟨h1, cpI_u (Nat.le_add_right 1 4) (in_c (i32_64 h1) ⟨by omega, by omega⟩ ⟨by omega, by omega⟩) ⟨bi32 _, fun z => ?_, fun z => ends_q ly ⟨by omega, by omega⟩ (by omega) (fun V' q => ⟨_, rfl, ⟨Or.inl ⟨bi_0.mp z, rfl⟩, gr_q (by omega) q⟩, mP_q hM q⟩)⟩⟩)
  have n8 : 1 ≤ n ∧ n ≤ 8 := by
    rcases bi_01 (1 ≤ n ∧ n ≤ 8) with q | q
    · exact absurd q z
    · exact bi_1.mp q
  refine cwI_u (Nat.le_add_right 3 2) (gathers_c ly n8 hM.1 vr) (fun v V5 hg => ?_)
  obtain ⟨gf, hv, gx⟩ := hg
  have q5 : qF V V5 M := ⟨fun a i q => gf a i (by omega) (by omega), fun a i a0 a1 => gf _ _ (by omega) (by omega), gf _ _ (by omega) (by omega), fun a i a0 a1 => gf a i (by omega) (by omega)⟩
  have M5 := MI_q q5 hM
  have v32 : i32 v := by omega
  refine ⟨v32, fun c => ?_, fun c => ends_q ly v32 (by omega) (fun V' q => ⟨_, rfl, ⟨Or.inr ⟨n8, V5, v, gx, Or.inl ⟨c, rfl⟩⟩, gr_q c (qF_trans q5 q)⟩, mP_q hM (qF_trans q5 q)⟩)⟩
  have g0 : GR (fun i => V5 (M + 7) i) n (V5 M 10) := by
    rcases hv with h | h | h
    · omega
    · omega
    · exact h.2
  have gx0 : gaX V V5 M n 0 := by
    have e : v = 0 := by omega
    rw [← e]; exact gx
  clear hv
  refine loop1 (f := fun x => [some (4, (M : Int)), some (0, n), none, some (0, x)]) (fun x Va => 0 ≤ x ∧ x ≤ 960 ∧ (∀ a i, a ≠ M + 20 → Va a i = V5 a i) ∧ ∀ i, 0 ≤ i → i < x → Va (M + 20) i = V5 (M + 4) i) (fun x _ => (960 - x).toNat) (fun x Va hx ih => ?_) 0 V5 ⟨by omega, by omega, fun _ _ _ => rfl, fun i a b => by omega⟩
  obtain ⟨x0, x1, fa, cp⟩ := hx
  have a4 : Va M 4 = V5 M 4 := fa _ _ (by omega)
  have a5 : Va M 5 = V5 M 5 := fa _ _ (by omega)
  refine t_X8_group_36 ly ⟨by omega, fun c2 => fun _ _ => ?_, fun c2 => ⟨by omega, fun _ => ⟨by omega, ih (x + 1) _ ⟨by omega, by omega, fun a i q => ?_, fun i i0 i1 => ?_⟩ (by omega)⟩⟩⟩
  · generalize hVb : wr (wr Va M 26 (Va M 4)) M 27 (Va M 5) = Vb
    have fb : ∀ a i, a ≠ M + 20 → ¬ (a = M ∧ (i = 26 ∨ i = 27)) → Vb a i = V5 a i := fun a i q1 q2 => by rw [← hVb, wr_ne (by omega), wr_ne (by omega)]; exact fa a i q1
    have b26 : Vb M 26 = V5 M 4 := by rw [← hVb, wr_i (by omega), wr_same]; exact a4
    have b27 : Vb M 27 = V5 M 5 := by rw [← hVb, wr_same]; exact a5
    have b20 : ∀ i, 0 ≤ i → i < 960 → Vb (M + 20) i = V5 (M + 4) i := fun i i0 i1 => by rw [← hVb, wr_a (by omega), wr_a (by omega)]; exact cp i i0 (by omega)
    have b7 : (fun i => Vb (M + 7) i) = fun i => V5 (M + 7) i := funext (fun i => fb _ _ (by omega) (by omega))
    have b10 : Vb M 10 = V5 M 10 := fb _ _ (by omega) (by omega)
    refine cw0_u (Nat.le_add_right 3 2) (takes_c (V := Vb) ly (n := n) (by rw [b7, b10]; exact g0)) (fun Vc hc => ?_)
    have im5 : imP (fun i => V5 (M + 7) i) Vc M n (V5 M 10) := by have := hc.2.1; rw [b7, b10] at this; exact this
    have pr5 : ∀ s t, 0 ≤ s → s < V5 M 10 → 0 ≤ t → t < V5 M 10 → prP Vc M n (V5 M 10) s t := by have := hc.2.2.1; rw [b10] at this; exact this
    have gc := tkP_GT hc
    have c5 : Vc M 5 = Vb M 10 := hc.2.1.2.1
    rw [← c5] at gc
    have N1 : Vc M 5 ≤ 120 := by have := g0.2.2.2.1; omega
    refine cwI_u (Nat.le_add_right 3 2) (finds_c ly gc N1) (fun v Vd hd => ?_)
    have d5 : Vd M 5 = Vc M 5 := hd.1 _ _ (by omega) (by omega) (by omega) (by omega) (by omega) (by omega)
    have dm : mMul Vd M = mMul Vc M := funext (fun s => funext (fun t => hd.1 _ _ (by omega) (by omega) (by omega) (by omega) (by omega) (by omega)))
    have di : mInv Vd M = mInv Vc M := funext (fun s => hd.1 _ _ (by omega) (by omega) (by omega) (by omega) (by omega) (by omega))
    -- cells that nothing here writes
    have fd : ∀ a i, ¬ (M + 4 ≤ a ∧ a ≤ M + 20) → ¬ (a = M ∧ (i = 4 ∨ i = 5 ∨ i = 10 ∨ i = 12 ∨ i = 13 ∨ i = 26 ∨ i = 27)) → Vd a i = V5 a i := fun a i q1 q2 => by
      rw [hd.1 a i (by omega) (by omega) (by omega) (by omega) (by omega) (by omega), hc.1 a i (by omega) (by omega) (by omega) (by omega) (by omega)]
      exact fb a i (by omega) (by omega)
    have v01 : v = 0 ∨ v = 1 := by
      rcases hd.2 with h | h
      · exact Or.inr h.1
      · exact Or.inl h.1
    refine ⟨by omega, fun c3 => ?_, fun c3 => fun _ _ => ?_⟩
    · have v1 : v = 1 := by omega
      have hps : hpsP (Vc M 5) (Vd M 12) (mMul Vc M) (mHas Vd M) (fun k => Vd (M + 10) k) := by
        rcases hd.2 with ⟨_, a, _⟩ | ⟨a, _⟩
        · exact a
        · omega
      refine cw0_u (Nat.le_add_right 4 1) (settles_c (V := Vd) ly (by rw [d5, dm, di]; exact gc) (by omega) (by rw [d5, dm]; exact hps)) (fun Ve he => ?_)
      obtain ⟨r1, r2, r3, r4, r5⟩ := build_ok hc hd v1 he
      have N5 := (GC_N r1).2
      refine loop1 (f := fun x => [some (4, (M : Int)), none, none, some (0, x)]) (fun x Vf => 0 ≤ x ∧ x ≤ 8 ∧ (∀ a i, a ≠ M + 21 → Vf a i = Ve a i)) (fun x _ => (8 - x).toNat) (fun x Vf hx ih2 => ?_) 0 Ve ⟨by omega, by omega, fun _ _ _ => rfl⟩
      obtain ⟨y0, y1, ff⟩ := hx
      refine t_X8_group_118 ly ⟨by omega, fun c4 => fun t5 => ?_, fun c4 => ⟨by omega, by omega, ih2 (x + 1) _ ⟨by omega, by omega, fun a i q => by rw [wr_a q]; exact ff a i q⟩ (by omega)⟩⟩
      refine cwI_u (by omega) (ends_c ly t5) (fun v V' h => ⟨_, rfl, ⟨Or.inr ⟨n8, V5, 0, gx0, Or.inr ⟨rfl, Vc, im5, pr5, Or.inl ⟨?_, ?_⟩⟩⟩, ?_⟩, ?_⟩)
      · rw [h.1, ff _ _ (by omega), r4, b10]
      · rcases hd.2 with q | q
        · rw [← b10, ← c5]; exact q.2.2
        · exact absurd q.1 (by omega)
      · have ex : ∀ a i, a ≠ M + 21 → ¬ (a = M ∧ (i = 0 ∨ i = 35)) → V' a i = Ve a i := fun a i q1 q2 => by rw [h.2 a i (by omega), wr_ne (by omega)]; exact ff a i q1
        refine ⟨fun a i a0 a1 => ?_, ⟨fun z => ?_, fun _ => by rw [h.2 _ _ (by omega), wr_same]⟩, Or.inr ⟨?_, n8, ?_, V5, gx0, ?_, fun k p k0 k1 p0 p1 => ?_⟩⟩
        · rw [ex a i (by omega) (by omega), r2 a i (by omega) (by omega), fb a i (by omega) (by omega)]
          exact gf a i (by omega) (by omega)
        · rw [h.1, ff _ _ (by omega), r4] at z; have := (GC_N r1).1.1; omega
        · rw [h.1, ff _ _ (by omega), ex _ _ (by omega) (by omega)]
        · rw [ex _ _ (by omega) (by omega)]; exact r3
        · rw [ex _ _ (by omega) (by omega), r4, b10]
        · rw [ex _ _ (by omega) (by omega)]
          have := r5 k p k0 (by rw [b10]; exact k1) p0 p1
          rw [b7, b10] at this
          rw [this]; exact congrFun b7 _
      have ew : ∀ a i, a ≠ M + 21 → ¬ (a = M ∧ (i = 0 ∨ i = 35)) → V' a i = Ve a i := fun a i q1 q2 => by rw [h.2 a i (by omega), wr_ne (by omega)]; exact ff a i q1
      have g1 : gF Ve V' M := fun a i q => ew a i (by omega) (by omega)
      refine mP_w hM (GC_q g1 r1) ?_ (fun a i q1 q2 => ?_)
      · rw [h.2 _ _ (by omega), wr_same, h.2 _ _ (by omega), wr_i (by omega), ff _ _ (by omega)]
        have := r1.2.1.2.2.2.1
        omega
      · rw [ew a i (by omega) (by omega), r2 a i (by omega) (by omega), fb a i (by omega) (by omega)]
        exact gf a i (by omega) (by omega)
    · have v0 : v = 0 := by omega
      have d26 : Vd M 26 = V5 M 4 := by rw [hd.1 _ _ (by omega) (by omega) (by omega) (by omega) (by omega) (by omega), hc.1 _ _ (by omega) (by omega) (by omega) (by omega) (by omega)]; exact b26
      have d27 : Vd M 27 = V5 M 5 := by rw [hd.1 _ _ (by omega) (by omega) (by omega) (by omega) (by omega) (by omega), hc.1 _ _ (by omega) (by omega) (by omega) (by omega) (by omega)]; exact b27
      have d20 : ∀ i, 0 ≤ i → i < 960 → Vd (M + 20) i = V5 (M + 4) i := fun i i0 i1 => by rw [hd.1 _ _ (by omega) (by omega) (by omega) (by omega) (by omega) (by omega), hc.1 _ _ (by omega) (by omega) (by omega) (by omega) (by omega)]; exact b20 i i0 i1
      rw [d26, d27]
      have G5 := M5.2.1
      have gr := G5.1.1
      have rows : ∀ k p, 0 ≤ k → k < V5 M 5 → 0 ≤ p → p < V5 M 4 → Vd (M + 20) (8 * k + p) = mIm V5 M (8 * k + p) := fun k p k0 k1 p0 p1 => by
        have a := gr.2.1
        have b := gr.2.2.2.1
        exact d20 _ (by omega) (by omega)
      have g20 : GR (fun i => Vd (M + 20) i) (V5 M 4) (V5 M 5) := GR_congr rows gr
      have s20 : srt (fun i => Vd (M + 20) i) (V5 M 4) (V5 M 5) := by
        intro i j i0 ij j1
        obtain ⟨p, p0, p1, p2, p3⟩ := G5.1.2.1 i j i0 ij j1
        exact ⟨p, p0, p1, by dsimp only; rw [rows i p i0 (by omega) p0 p1, rows j p (by omega) j1 p0 p1]; exact p2, fun q q0 q1 => by dsimp only; rw [rows i q i0 (by omega) q0 (by omega), rows j q (by omega) j1 q0 (by omega)]; exact p3 q q0 q1⟩
      have f20 : few (fun i => Vd (M + 20) i) (V5 M 4) (V5 M 5) := fun mul hm => GC_few G5 mul (isPr_congr gr rows hm)
      refine cw0_u (Nat.le_refl _) (puts_c (V := Vd) ly g20 s20 f20) (fun Ve he => ?_)
      obtain ⟨r1, r2, r3, r4, r5⟩ := he
      refine cwI_u (by omega) (ends_c ly ⟨by omega, by omega⟩) (fun v' V' h => ⟨_, rfl, ⟨Or.inr ⟨n8, V5, 0, gx0, Or.inr ⟨rfl, Vc, im5, pr5, Or.inr ⟨h.1, ?_⟩⟩⟩, ?_⟩, ?_⟩)
      · rcases hd.2 with q | q
        · exact absurd q.1 (by omega)
        · rw [← b10, ← c5]; exact q.2
      · refine ⟨fun a i a0 a1 => ?_, ⟨fun _ => ?_, fun z => by have := h.1; omega⟩, Or.inl ⟨by have := h.1; omega, ?_, ?_, fun k p k0 k1 p0 p1 => ?_⟩⟩
        · rw [h.2 a i (by omega), r2 a i (by omega) (by omega), fd a i (by omega) (by omega)]
          exact gf a i (by omega) (by omega)
        · rw [h.2 _ _ (by omega), r2 _ _ (by omega) (by omega), fd _ _ (by omega) (by omega)]; exact gf _ _ (by omega) (by omega)
        · rw [h.2 _ _ (by omega), r3]; exact gf _ _ (by omega) (by omega)
        · rw [h.2 _ _ (by omega), r4]; exact gf _ _ (by omega) (by omega)
        · have w4 : V5 M 4 = V M 4 := gf _ _ (by omega) (by omega)
          have w5 : V5 M 5 = V M 5 := gf _ _ (by omega) (by omega)
          rw [h.2 _ _ (by omega), r5 k p k0 (by omega) p0 (by omega)]
          have := rows k p k0 (by omega) p0 (by omega)
          exact Eq.trans this (gf (M + 4) (8 * k + p) (by omega) (by omega))
      have g1 : gF Ve V' M := fun a i q => h.2 a i (by omega)
      refine mP_w hM (GC_q g1 r1) ?_ (fun a i q1 q2 => ?_)
      · rw [h.2 _ _ (by omega), h.2 _ _ (by omega), r2 _ _ (by omega) (by omega), fd _ _ (by omega) (by omega)]
        have r0 := M5.2.2.1
        refine ⟨r0.1, ?_⟩
        have pe : isPr (mIm V5 M) (V5 M 4) (V5 M 5) (mMul Ve M) := by
          have := imI_pr r1.1
          rw [r3, r4] at this
          refine isPr_congr gr (fun k p k0 k1 p0 p1 => ?_) this
          show Ve (M + 4) (8 * k + p) = _
          rw [r5 k p k0 k1 p0 p1]; exact rows k p k0 k1 p0 p1
        have ge := (GC_N r1).1
        have ce := r1.2.1.2.2.2.2.2.2.2.1
        rw [r4] at ge ce
        exact GC_cls G5 r0.2 _ _ _ pe ge ce (by have := r1.2.1.2.2.2.1; omega)
      · rw [h.2 a i (by omega), r2 a i (by omega) (by omega), fd a i (by omega) (by omega)]
        exact gf a i (by omega) (by omega)
  · rw [wr_a q]; exact fa a i q
  · by_cases z : i = x
    · rw [z, wr_same]; exact fa _ _ (by omega)
    · rw [wr_i z]; exact cp i i0 (by omega)
end
