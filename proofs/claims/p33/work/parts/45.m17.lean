theorem srt_congr {f f' : Int → Int} {n N : Int} (e : ∀ k p, 0 ≤ k → k < N → 0 ≤ p → p < n → f' (8 * k + p) = f (8 * k + p)) (h : srt f n N) : srt f' n N := by
  intro i j i0 ij j1
  obtain ⟨p, p0, p1, p2, p3⟩ := h i j i0 ij j1
  exact ⟨p, p0, p1, by rw [e i p i0 (by omega) p0 p1, e j p (by omega) j1 p0 p1]; exact p2, fun q q0 q1 => by rw [e i q i0 (by omega) q0 (by omega), e j q (by omega) j1 q0 (by omega)]; exact p3 q q0 q1⟩
theorem kOK_congr {f f' : Int → Int} {n N r : Int} (e : ∀ k p, 0 ≤ k → k < N → 0 ≤ p → p < n → f' (8 * k + p) = f (8 * k + p)) (h : kOK f n N r) : kOK f' n N r := ⟨GR_congr e h.1, srt_congr e h.2.1, fun mul hm => h.2.2.1 mul (isPr_congr h.1 e hm), h.2.2.2.1, fun mul inv c hm => h.2.2.2.2 mul inv c (isPr_congr h.1 e hm)⟩
section
variable {d : Nat} {G : List gS} {R V : gV} {M : Nat}
theorem MI_kOK (h : MI V M) : kOK (mIm V M) (V M 4) (V M 5) (V M 35) := ⟨h.2.1.1.1, h.2.1.1.2.1, GC_few h.2.1, h.2.2.1.1, GC_cls h.2.1 h.2.2.1.2⟩
def imA (k : Int) : Int := if 0 ≤ k ∧ k ≤ 2 then 0 else -1
/-- the rows as they are stay; those kept under k are they, the others stay -/
def imR (V V' : gV) (M : Nat) (k : Int) : Prop := (V' M 4 = V M 4 ∧ V' M 5 = V M 5 ∧ ∀ i, V' (M + 4) i = V (M + 4) i) ∧ (∀ j, 0 ≤ j → j < 3 → ¬ ((0 ≤ k ∧ k ≤ 2) ∧ j = k) → V' (M + 29) j = V (M + 29) j ∧ V' (M + 30) j = V (M + 30) j ∧ ∀ i, 0 ≤ i → i < 960 → V' (M + 31) (960 * j + i) = V (M + 31) (960 * j + i)) ∧ ((0 ≤ k ∧ k ≤ 2) → V' (M + 29) k = V M 4 ∧ V' (M + 30) k = V M 5 ∧ ∀ i, 0 ≤ i → i < 960 → V' (M + 31) (960 * k + i) = V (M + 4) i)
/-- the row stays, the one kept under k is it, the others stay -/
def imW (V V' : gV) (M : Nat) (k : Int) : Prop := (V' M 35 = V M 35 ∧ V' M 37 = V M 37 ∧ ∀ i, V' (M + 27) i = V (M + 27) i) ∧ (∀ j, ¬ ((0 ≤ k ∧ k ≤ 2) ∧ j = k) → V' (M + 34) j = V (M + 34) j ∧ ∀ i, 0 ≤ i → i < 300 → V' (M + 35) (300 * j + i) = V (M + 35) (300 * j + i)) ∧ ((0 ≤ k ∧ k ≤ 2) → V' (M + 34) k = V M 35 ∧ ∀ i, 0 ≤ i → i < 300 → V' (M + 35) (300 * k + i) = V (M + 27) i)
def imgP (V V' : gV) (M : Nat) (k v : Int) : Prop := v = imA k ∧ MI V' M ∧ (∀ a i, ¬ (M ≤ a ∧ a ≤ M + 35) → V' a i = V a i) ∧ (∀ a i, M + 1 ≤ a → a ≤ M + 3 → V' a i = V a i) ∧ (∀ i, V' (M + 28) i = if (0 ≤ k ∧ k ≤ 2) ∧ i = k then 1 else V (M + 28) i) ∧ imR V V' M k ∧ imW V V' M k
theorem mimage_c (ly : lay8 G R M) (hM : MI V M) {k : Int} (h1 : i32 k) : cwv 2 (fun r V' => ∃ v, r = some (0, v) ∧ imgP V V' M k v) 239 [(4, (M : Int)), (0, k)] G R V := by
  refine c_X8_image (t_X8_image_0 ly ⟨h1, cpI_u (Nat.le_refl _) (in_c (i32_64 h1) ⟨by omega, by omega⟩ ⟨by omega, by omega⟩) ⟨bi32 _, fun z => ?_, fun z => ?_⟩⟩)
  · have k0 : 0 ≤ k ∧ k ≤ 2 := by
      rcases bi_01 (0 ≤ k ∧ k ≤ 2) with q | q
      · exact absurd q z
      · exact bi_1.mp q
    refine ⟨by omega, fun _ _ => ?_⟩
    -- what the loops keep
    have keep : ∀ V', (∀ a i, a ≠ M + 28 → a ≠ M + 29 → a ≠ M + 30 → a ≠ M + 31 → a ≠ M + 32 → a ≠ M + 33 → a ≠ M + 34 → a ≠ M + 35 → ¬ (a = M ∧ i = 0) → V' a i = V a i) → (∀ i, V' (M + 28) i = if i = k then 1 else V (M + 28) i) → (∀ i, i ≠ k → V' (M + 29) i = V (M + 29) i ∧ V' (M + 30) i = V (M + 30) i ∧ V' (M + 34) i = V (M + 34) i) → V' (M + 29) k = V M 4 → V' (M + 30) k = V M 5 → V' (M + 34) k = V M 35 → (∀ i, ¬ (960 * k ≤ i ∧ i < 960 * k + 960) → V' (M + 31) i = V (M + 31) i) → (∀ i, 0 ≤ i → i < 960 → V' (M + 31) (960 * k + i) = V (M + 4) i) → (∀ i, V' (M + 35) i = if 300 * k ≤ i ∧ i < 300 * k + 300 then V (M + 27) (i - 300 * k) else V (M + 35) i) → imgP V V' M k 0 := by
      intro V' e e28 eo e29 e30 e34 e31 e31' e35
      refine ⟨by unfold imA; rw [if_pos k0], ⟨fun s s0 s1 => by rw [e _ _ (by omega) (by omega) (by omega) (by omega) (by omega) (by omega) (by omega) (by omega) (by omega)]; exact hM.1 s s0 s1, GC_q (fun a i q => e a i (by omega) (by omega) (by omega) (by omega) (by omega) (by omega) (by omega) (by omega) (by omega)) hM.2.1, ?_, ?_⟩, fun a i q => e a i (by omega) (by omega) (by omega) (by omega) (by omega) (by omega) (by omega) (by omega) (by omega), fun a i a0 a1 => e _ _ (by omega) (by omega) (by omega) (by omega) (by omega) (by omega) (by omega) (by omega) (by omega), fun i => ?_, ⟨⟨e _ _ (by omega) (by omega) (by omega) (by omega) (by omega) (by omega) (by omega) (by omega) (by omega), e _ _ (by omega) (by omega) (by omega) (by omega) (by omega) (by omega) (by omega) (by omega) (by omega), fun i => e _ _ (by omega) (by omega) (by omega) (by omega) (by omega) (by omega) (by omega) (by omega) (by omega)⟩, fun j j0 j1 nj => ⟨(eo j (fun q => nj ⟨k0, q⟩)).1, (eo j (fun q => nj ⟨k0, q⟩)).2.1, fun i i0 i1 => e31 _ (by have : j ≠ k := fun q => nj ⟨k0, q⟩; omega)⟩, fun _ => ⟨e29, e30, e31'⟩⟩, ⟨e _ _ (by omega) (by omega) (by omega) (by omega) (by omega) (by omega) (by omega) (by omega) (by omega), e _ _ (by omega) (by omega) (by omega) (by omega) (by omega) (by omega) (by omega) (by omega) (by omega), fun i => e _ _ (by omega) (by omega) (by omega) (by omega) (by omega) (by omega) (by omega) (by omega) (by omega)⟩, fun j nj => ⟨(eo j (fun q => nj ⟨k0, q⟩)).2.2, fun i i0 i1 => by rw [e35, if_neg (by have : j ≠ k := fun q => nj ⟨k0, q⟩; omega)]⟩, fun _ => ⟨e34, fun i i0 i1 => by rw [e35, if_pos (by omega), show 300 * k + i - 300 * k = i by omega]⟩⟩
      · rw [e M 35 (by omega) (by omega) (by omega) (by omega) (by omega) (by omega) (by omega) (by omega) (by omega), e M 13 (by omega) (by omega) (by omega) (by omega) (by omega) (by omega) (by omega) (by omega) (by omega)]; exact hM.2.2.1
      · intro j j0 j1 j2
        by_cases q : j = k
        · rw [q, e29, e30, e34]
          have K := MI_kOK hM
          refine kOK_congr (fun x p x0 x1 p0 p1 => ?_) K
          have a := K.1.2.1
          have b := K.1.2.2.2.1
          exact e31' _ (by omega) (by omega)
        · have o := eo j q
          rw [e28, if_neg q] at j2
          rw [o.1, o.2.1, o.2.2]
          have K := hM.2.2.2 j j0 j1 j2
          refine kOK_congr (fun x p x0 x1 p0 p1 => ?_) K
          have a := K.1.2.1
          have b := K.1.2.2.2.1
          exact e31 _ (by omega)
      · rw [e28]
        by_cases q : i = k
        · rw [if_pos q, if_pos ⟨k0, q⟩]
        · rw [if_neg q, if_neg (fun w => q w.2)]
    let J : gV → Prop := fun V' => (∀ a i, a ≠ M + 28 → a ≠ M + 29 → a ≠ M + 30 → a ≠ M + 31 → a ≠ M + 32 → a ≠ M + 33 → a ≠ M + 34 → a ≠ M + 35 → V' a i = V a i) ∧ (∀ i, V' (M + 28) i = if i = k then 1 else V (M + 28) i) ∧ (∀ i, i ≠ k → V' (M + 29) i = V (M + 29) i ∧ V' (M + 30) i = V (M + 30) i ∧ V' (M + 34) i = V (M + 34) i) ∧ V' (M + 29) k = V M 4 ∧ V' (M + 30) k = V M 5 ∧ (∀ i, ¬ (960 * k ≤ i ∧ i < 960 * k + 960) → V' (M + 31) i = V (M + 31) i)
    refine loop1 (f := fun x => [some (4, (M : Int)), some (0, k), some (0, x)]) (fun x V' => 0 ≤ x ∧ x ≤ 960 ∧ (J V' ∧ ∀ i, V' (M + 35) i = V (M + 35) i) ∧ ∀ i, 0 ≤ i → i < x → V' (M + 31) (960 * k + i) = V (M + 4) i) (fun x _ => (960 - x).toNat) (fun x V' hx ih => ?_) 0 _ ⟨by omega, by omega, ⟨⟨fun a i q1 q2 q3 q4 q5 q6 q7 q8 => by rw [wr_a q3, wr_a q2, wr_a q1], fun i => ?_, fun i q => ?_, ?_, ?_, fun i _ => ?_⟩, fun i => by rw [wr_a (by omega), wr_a (by omega), wr_a (by omega)]⟩, fun i a b => by omega⟩
    · obtain ⟨x0, x1, ⟨⟨j1, j2, j3, j4, j5, j6⟩, j8⟩, cp⟩ := hx
      refine t_X8_image_47 ly ⟨by omega, fun c => ?_, fun c => ⟨by omega, by omega, by omega, fun _ => ⟨by omega, by omega, ih (x + 1) _ ⟨by omega, by omega, ⟨⟨fun a i q1 q2 q3 q4 q5 q6 q7 q8 => by rw [wr_a q4]; exact j1 a i q1 q2 q3 q4 q5 q6 q7 q8, fun i => by rw [wr_a (by omega)]; exact j2 i, fun i q => by rw [wr_a (by omega), wr_a (by omega), wr_a (by omega)]; exact j3 i q, by rw [wr_a (by omega)]; exact j4, by rw [wr_a (by omega)]; exact j5, fun i q => by rw [wr_i (by omega)]; exact j6 i q⟩, fun i => by rw [wr_a (by omega)]; exact j8 i⟩, fun i i0 i1 => ?_⟩ (by omega)⟩⟩⟩
      · -- the acts
        refine loop1 (f := fun x => [some (4, (M : Int)), some (0, k), some (0, x)]) (fun x V' => 0 ≤ x ∧ x ≤ 8 ∧ (J V' ∧ ∀ i, V' (M + 35) i = V (M + 35) i) ∧ ∀ i, 0 ≤ i → i < 960 → V' (M + 31) (960 * k + i) = V (M + 4) i) (fun x _ => (8 - x).toNat) (fun x V' hx ih2 => ?_) 0 V' ⟨by omega, by omega, ⟨⟨j1, j2, j3, j4, j5, j6⟩, j8⟩, fun i i0 i1 => cp i i0 (by omega)⟩
        clear j1 j2 j3 j4 j5 j6 j8 cp c
        obtain ⟨y0, y1, ⟨⟨j1, j2, j3, j4, j5, j6⟩, j8⟩, cp⟩ := hx
        refine t_X8_image_80 ly ⟨by omega, fun c => ?_, fun c => ⟨by omega, by omega, by omega, fun _ => ⟨by omega, by omega, ih2 (x + 1) _ ⟨by omega, by omega, ⟨⟨fun a i q1 q2 q3 q4 q5 q6 q7 q8 => by rw [wr_a q5]; exact j1 a i q1 q2 q3 q4 q5 q6 q7 q8, fun i => by rw [wr_a (by omega)]; exact j2 i, fun i q => by rw [wr_a (by omega), wr_a (by omega), wr_a (by omega)]; exact j3 i q, by rw [wr_a (by omega)]; exact j4, by rw [wr_a (by omega)]; exact j5, fun i q => by rw [wr_a (by omega)]; exact j6 i q⟩, fun i => by rw [wr_a (by omega)]; exact j8 i⟩, fun i i0 i1 => by rw [wr_a (by omega)]; exact cp i i0 i1⟩ (by omega)⟩⟩⟩
        refine loop1 (f := fun x => [some (4, (M : Int)), some (0, k), some (0, x)]) (fun x V' => 0 ≤ x ∧ x ≤ 2400 ∧ (J V' ∧ ∀ i, V' (M + 35) i = V (M + 35) i) ∧ ∀ i, 0 ≤ i → i < 960 → V' (M + 31) (960 * k + i) = V (M + 4) i) (fun x _ => (2400 - x).toNat) (fun x V' hx ih3 => ?_) 0 V' ⟨by omega, by omega, ⟨⟨j1, j2, j3, j4, j5, j6⟩, j8⟩, cp⟩
        clear j1 j2 j3 j4 j5 j6 j8 cp c
        obtain ⟨z0, z1, ⟨⟨j1, j2, j3, j4, j5, j6⟩, j8⟩, cp⟩ := hx
        refine t_X8_image_111 ly ⟨by omega, fun c => fun _ => ⟨by omega, ?_⟩, fun c => ⟨by omega, by omega, by omega, fun _ => ⟨by omega, by omega, ih3 (x + 1) _ ⟨by omega, by omega, ⟨⟨fun a i q1 q2 q3 q4 q5 q6 q7 q8 => by rw [wr_a q6]; exact j1 a i q1 q2 q3 q4 q5 q6 q7 q8, fun i => by rw [wr_a (by omega)]; exact j2 i, fun i q => by rw [wr_a (by omega), wr_a (by omega), wr_a (by omega)]; exact j3 i q, by rw [wr_a (by omega)]; exact j4, by rw [wr_a (by omega)]; exact j5, fun i q => by rw [wr_a (by omega)]; exact j6 i q⟩, fun i => by rw [wr_a (by omega)]; exact j8 i⟩, fun i i0 i1 => by rw [wr_a (by omega)]; exact cp i i0 i1⟩ (by omega)⟩⟩⟩
        -- the row
        have e35 : V' M 35 = V M 35 := j1 _ _ (by omega) (by omega) (by omega) (by omega) (by omega) (by omega) (by omega) (by omega)
        refine loop1 (f := fun x => [some (4, (M : Int)), some (0, k), some (0, x)]) (fun x V' => 0 ≤ x ∧ x ≤ 300 ∧ J V' ∧ V' (M + 34) k = V M 35 ∧ (∀ i, V' (M + 35) i = if 300 * k ≤ i ∧ i < 300 * k + x then V (M + 27) (i - 300 * k) else V (M + 35) i) ∧ ∀ i, 0 ≤ i → i < 960 → V' (M + 31) (960 * k + i) = V (M + 4) i) (fun x _ => (300 - x).toNat) (fun x V' hx ih4 => ?_) 0 _ ⟨by omega, by omega, ⟨fun a i q1 q2 q3 q4 q5 q6 q7 q8 => by rw [wr_a q7]; exact j1 a i q1 q2 q3 q4 q5 q6 q7 q8, fun i => by rw [wr_a (by omega)]; exact j2 i, fun i q => by rw [wr_a (by omega), wr_a (by omega), wr_i q]; exact j3 i q, by rw [wr_a (by omega)]; exact j4, by rw [wr_a (by omega)]; exact j5, fun i q => by rw [wr_a (by omega)]; exact j6 i q⟩, by rw [wr_same]; exact e35, fun i => by rw [wr_a (by omega), if_neg (by omega)]; exact j8 i, fun i i0 i1 => by rw [wr_a (by omega)]; exact cp i i0 i1⟩
        clear j1 j2 j3 j4 j5 j6 j8 cp c e35
        obtain ⟨w0, w1, ⟨j1, j2, j3, j4, j5, j6⟩, j7, j9, cp⟩ := hx
        refine t_X8_image_154 ly ⟨by omega, fun c => ?_, fun c => ⟨by omega, by omega, by omega, fun _ => ⟨by omega, by omega, ih4 (x + 1) _ ⟨by omega, by omega, ⟨fun a i q1 q2 q3 q4 q5 q6 q7 q8 => by rw [wr_a q8]; exact j1 a i q1 q2 q3 q4 q5 q6 q7 q8, fun i => by rw [wr_a (by omega)]; exact j2 i, fun i q => by rw [wr_a (by omega), wr_a (by omega), wr_a (by omega)]; exact j3 i q, by rw [wr_a (by omega)]; exact j4, by rw [wr_a (by omega)]; exact j5, fun i q => by rw [wr_a (by omega)]; exact j6 i q⟩, by rw [wr_a (by omega)]; exact j7, fun i => ?_, fun i i0 i1 => by rw [wr_a (by omega)]; exact cp i i0 i1⟩ (by omega)⟩⟩⟩
        rotate_left
        · have e27 : V' (M + 27) x = V (M + 27) x := j1 _ _ (by omega) (by omega) (by omega) (by omega) (by omega) (by omega) (by omega) (by omega)
          by_cases y : i = 300 * k + x
          · rw [y, wr_same, if_pos (by omega), e27, show 300 * k + x - 300 * k = x by omega]
          · rw [wr_i y, j9 i]
            by_cases y2 : 300 * k ≤ i ∧ i < 300 * k + x
            · rw [if_pos y2, if_pos (by omega)]
            · rw [if_neg y2, if_neg (by omega)]
        refine cwI_u (Nat.le_refl _) (ends_c ly ⟨by omega, by omega⟩) (fun v Vz h => ⟨v, rfl, by rw [h.1]; exact keep Vz (fun a i q1 q2 q3 q4 q5 q6 q7 q8 q9 => by rw [h.2 a i q9]; exact j1 a i q1 q2 q3 q4 q5 q6 q7 q8) (fun i => by rw [h.2 _ _ (by omega)]; exact j2 i) (fun i q => by rw [h.2 _ _ (by omega), h.2 _ _ (by omega), h.2 _ _ (by omega)]; exact j3 i q) (by rw [h.2 _ _ (by omega)]; exact j4) (by rw [h.2 _ _ (by omega)]; exact j5) (by rw [h.2 _ _ (by omega)]; exact j7) (fun i q => by rw [h.2 _ _ (by omega)]; exact j6 i q) (fun i i0 i1 => by rw [h.2 _ _ (by omega)]; exact cp i i0 i1) (fun i => by rw [h.2 _ _ (by omega), j9 i, show x = 300 by omega])⟩)
      · by_cases q : i = x
        · rw [q, wr_same]; exact j1 (M + 4) x (by omega) (by omega) (by omega) (by omega) (by omega) (by omega) (by omega) (by omega)
        · rw [wr_i (by omega)]; exact cp i i0 (by omega)
    · rw [wr_a (by omega), wr_a (by omega)]
      by_cases q : i = k
      · rw [q, wr_same, if_pos rfl]
      · rw [wr_i q, if_neg q]
    · rw [wr_a (by omega), wr_i q, wr_a (by omega), wr_i q, wr_a (by omega), wr_a (by omega), wr_a (by omega), wr_a (by omega), wr_a (by omega)]
      exact ⟨rfl, rfl, rfl⟩
    · rw [wr_a (by omega), wr_same]
    · rw [wr_same]
    · rw [wr_a (by omega), wr_a (by omega), wr_a (by omega)]
  · have z := bi_0.mp z
    refine ends_q ly ⟨by omega, by omega⟩ (Nat.le_refl _) (fun V' q => ⟨_, rfl, by unfold imA; rw [if_neg z], MI_q q hM, fun a i w => q.1 a i (by omega), q.2.1, fun i => ?_, ⟨⟨q.1 _ _ (by omega), q.1 _ _ (by omega), fun i => q.1 _ _ (by omega)⟩, fun j j0 j1 _ => ⟨q.2.2.2 _ _ (by omega) (by omega), q.2.2.2 _ _ (by omega) (by omega), fun i _ _ => q.2.2.2 _ _ (by omega) (by omega)⟩, fun w => absurd w z⟩, ⟨q.2.2.1, q.2.2.2 _ _ (by omega) (by omega), fun i => q.2.2.2 _ _ (by omega) (by omega)⟩, fun j _ => ⟨q.2.2.2 _ _ (by omega) (by omega), fun i _ _ => q.2.2.2 _ _ (by omega) (by omega)⟩, fun w => absurd w z⟩)
    rw [if_neg (fun w => z w.1)]
    exact q.2.2.2 _ _ (by omega) (by omega)
def bkA (V : gV) (M : Nat) (k : Int) : Int := if ¬ (0 ≤ k ∧ k ≤ 2) then -1 else if V (M + 28) k = 0 then -2 else 0
def bkR (V V' : gV) (M : Nat) (k : Int) : Prop := (∀ a i, (M + 28 ≤ a ∨ (a = M ∧ i = 37)) → a ≤ M + 35 → V' a i = V a i) ∧ ((¬ bkA V M k = 0 → V' M 4 = V M 4 ∧ V' M 5 = V M 5 ∧ ∀ i, V' (M + 4) i = V (M + 4) i) ∧ (bkA V M k = 0 → V (M + 28) k = 1 ∧ V' M 4 = V (M + 29) k ∧ V' M 5 = V (M + 30) k ∧ ∀ y p, 0 ≤ y → y < V (M + 30) k → 0 ≤ p → p < V (M + 29) k → V' (M + 4) (8 * y + p) = V (M + 31) (960 * k + (8 * y + p))) ∧ (¬ bkA V M k = 0 → V' M 35 = V M 35 ∧ ∀ i, V' (M + 27) i = V (M + 27) i) ∧ (bkA V M k = 0 → V' M 35 = V (M + 34) k ∧ ∀ i, 0 ≤ i → i < 300 → V' (M + 27) i = V (M + 35) (300 * k + i)))
theorem bk_q {V' : gV} {k : Int} (hv : ¬ bkA V M k = 0) (q : qF V V' M) : bkR V V' M k := ⟨fun a i a0 a1 => q.2.2.2 a i (by omega) (by omega), fun _ => ⟨q.1 _ _ (by omega), q.1 _ _ (by omega), fun i => q.1 _ _ (by omega)⟩, fun z => absurd z hv, fun _ => ⟨q.2.2.1, fun i => q.2.2.2 _ _ (by omega) (by omega)⟩, fun z => absurd z hv⟩
theorem mback_c (ly : lay8 G R M) (hM : MI V M) {k : Int} (h1 : i32 k) : cwv 6 (fun r V' => ∃ v, r = some (0, v) ∧ ((v = bkA V M k ∧ bkR V V' M k) ∧ mP V V' M)) 240 [(4, (M : Int)), (0, k)] G R V := by
  refine c_X8_back (t_X8_back_0 ly ⟨h1, cpI_u (Nat.le_add_right 1 4) (in_c (i32_64 h1) ⟨by omega, by omega⟩ ⟨by omega, by omega⟩) ⟨bi32 _, fun z => ?_, fun z => ends_q ly ⟨by omega, by omega⟩ (by omega) (fun V' q => ⟨_, rfl, ⟨by unfold bkA; rw [if_pos (bi_0.mp z)], bk_q (by unfold bkA; rw [if_pos (bi_0.mp z)]; omega) q⟩, mP_q hM q⟩)⟩⟩)
  have k0 : 0 ≤ k ∧ k ≤ 2 := by
    rcases bi_01 (0 ≤ k ∧ k ≤ 2) with q | q
    · exact absurd q z
    · exact bi_1.mp q
  refine ⟨by omega, fun b01 => ⟨fun z2 => ?_, fun z2 => ends_q ly ⟨by omega, by omega⟩ (by omega) (fun V' q => ⟨_, rfl, ⟨by unfold bkA; rw [if_neg (fun w => w k0), if_pos z2], bk_q (by unfold bkA; rw [if_neg (fun w => w k0), if_pos z2]; omega) q⟩, mP_q hM q⟩)⟩⟩
  have K := hM.2.2.2 k k0.1 (by omega) (by omega)
  have ea : (0 : Int) = bkA V M k := by unfold bkA; rw [if_neg (fun w => w k0), if_neg z2]
  refine loop1 (f := fun x => [some (4, (M : Int)), some (0, k), some (0, x)]) (fun x Va => 0 ≤ x ∧ x ≤ 960 ∧ (∀ a i, a ≠ M + 20 → Va a i = V a i) ∧ ∀ i, 0 ≤ i → i < x → Va (M + 20) i = V (M + 31) (960 * k + i)) (fun x _ => (960 - x).toNat) (fun x Va hx ih => ?_) 0 V ⟨by omega, by omega, fun _ _ _ => rfl, fun i a b => by omega⟩
  obtain ⟨x0, x1, fa, cp⟩ := hx
  refine t_X8_back_36 ly ⟨by omega, fun c => ⟨by omega, fun _ _ => ?_⟩, fun c => ⟨by omega, by omega, by omega, fun _ => ⟨by omega, by omega, ih (x + 1) _ ⟨by omega, by omega, fun a i q => by rw [wr_a q]; exact fa a i q, fun i i0 i1 => ?_⟩ (by omega)⟩⟩⟩
  · rw [fa (M + 29) k (by omega), fa (M + 30) k (by omega)]
    have n8 := K.1.2.1
    have N1 := K.1.2.2.2.1
    have rows : ∀ y p, 0 ≤ y → y < V (M + 30) k → 0 ≤ p → p < V (M + 29) k → Va (M + 20) (8 * y + p) = V (M + 31) (960 * k + (8 * y + p)) := fun y p y0 y1 p0 p1 => cp _ (by omega) (by omega)
    have K2 : kOK (fun i => Va (M + 20) i) (V (M + 29) k) (V (M + 30) k) (V (M + 34) k) := kOK_congr rows K
    refine cw0_u (Nat.le_refl _) (puts_c (V := Va) ly K2.1 K2.2.1 K2.2.2.1) (fun Vb hb => ?_)
    obtain ⟨r1, r2, r3, r4, r5⟩ := hb
    have rc : V (M + 34) k ≤ Vb M 13 := by
      have pe : isPr (fun i => Va (M + 20) i) (V (M + 29) k) (V (M + 30) k) (mMul Vb M) := by
        have := imI_pr r1.1
        rw [r3, r4] at this
        exact isPr_congr K2.1 r5 this
      have ge := (GC_N r1).1
      have ce := r1.2.1.2.2.2.2.2.2.2.1
      rw [r4] at ge ce
      exact K2.2.2.2.2 _ _ _ pe ge ce (by have := r1.2.1.2.2.2.1; omega)
    -- nothing of the group is written any more
    let J : gV → Prop := fun V' => ∀ a i, a ≠ M + 21 → a ≠ M + 22 → V' a i = Vb a i
    refine loop1 (f := fun x => [some (4, (M : Int)), some (0, k), some (0, x)]) (fun x V' => 0 ≤ x ∧ x ≤ 8 ∧ J V') (fun x _ => (8 - x).toNat) (fun x V' hx ih2 => ?_) 0 Vb ⟨by omega, by omega, fun _ _ _ _ => rfl⟩
    obtain ⟨y0, y1, j1⟩ := hx
    refine t_X8_back_89 ly ⟨by omega, fun c => ?_, fun c => ⟨by omega, by omega, by omega, fun _ => ⟨by omega, by omega, ih2 (x + 1) _ ⟨by omega, by omega, fun a i q1 q2 => by rw [wr_a q1]; exact j1 a i q1 q2⟩ (by omega)⟩⟩⟩
    refine loop1 (f := fun x => [some (4, (M : Int)), some (0, k), some (0, x)]) (fun x V' => 0 ≤ x ∧ x ≤ 2400 ∧ J V') (fun x _ => (2400 - x).toNat) (fun x V' hx ih3 => ?_) 0 V' ⟨by omega, by omega, j1⟩
    clear j1
    obtain ⟨z0, z1, j1⟩ := hx
    refine t_X8_back_120 ly ⟨by omega, fun c => ⟨by omega, fun _ => ?_⟩, fun c => ⟨by omega, by omega, by omega, fun _ => ⟨by omega, by omega, ih3 (x + 1) _ ⟨by omega, by omega, fun a i q1 q2 => by rw [wr_a q2]; exact j1 a i q1 q2⟩ (by omega)⟩⟩⟩
    have e34 : V' (M + 34) k = V (M + 34) k := by rw [j1 _ _ (by omega) (by omega), r2 _ _ (by omega) (by omega)]; exact fa _ _ (by omega)
    refine loop1 (f := fun x => [some (4, (M : Int)), some (0, k), some (0, x)]) (fun x V' => 0 ≤ x ∧ x ≤ 300 ∧ (∀ a i, a ≠ M + 21 → a ≠ M + 22 → a ≠ M + 27 → ¬ (a = M ∧ i = 35) → V' a i = Vb a i) ∧ V' M 35 = V (M + 34) k ∧ ∀ i, 0 ≤ i → i < x → V' (M + 27) i = V (M + 35) (300 * k + i)) (fun x _ => (300 - x).toNat) (fun x V' hx ih4 => ?_) 0 _ ⟨by omega, by omega, fun a i q1 q2 q3 q4 => by rw [wr_ne q4]; exact j1 a i q1 q2, by rw [wr_same]; exact e34, fun i i0 i1 => by omega⟩
    clear j1 e34
    obtain ⟨w0, w1, j1, j2, j3⟩ := hx
    refine t_X8_back_163 ly ⟨by omega, fun c => ?_, fun c => ⟨by omega, by omega, by omega, fun _ => ⟨by omega, by omega, ih4 (x + 1) _ ⟨by omega, by omega, fun a i q1 q2 q3 q4 => by rw [wr_a q3]; exact j1 a i q1 q2 q3 q4, by rw [wr_a (by omega)]; exact j2, fun i i0 i1 => ?_⟩ (by omega)⟩⟩⟩
    rotate_left
    · by_cases y : i = x
      · rw [y, wr_same, j1 _ _ (by omega) (by omega) (by omega) (by omega), r2 _ _ (by omega) (by omega)]; exact fa _ _ (by omega)
      · rw [wr_i y]; exact j3 i i0 (by omega)
    refine cwI_u (by omega) (ends_c ly ⟨by omega, by omega⟩) (fun v Vz h => ⟨v, rfl, ⟨by rw [h.1]; exact ea, ?_⟩, ?_⟩)
    · have zz : ∀ a i, a ≠ M + 21 → a ≠ M + 22 → a ≠ M + 27 → ¬ (a = M ∧ (i = 35 ∨ i = 0)) → Vz a i = Vb a i := fun a i q1 q2 q3 q4 => by rw [h.2 a i (by omega)]; exact j1 a i q1 q2 q3 (by omega)
      refine ⟨fun a i a0 a1 => by rw [zz a i (by omega) (by omega) (by omega) (by omega), r2 a i (by omega) (by omega)]; exact fa a i (by omega), fun z => absurd ea.symm z, fun _ => ⟨by omega, by rw [zz _ _ (by omega) (by omega) (by omega) (by omega)]; exact r3, by rw [zz _ _ (by omega) (by omega) (by omega) (by omega)]; exact r4, fun y p y0 y1 p0 p1 => ?_⟩, fun z => absurd ea.symm z, fun _ => ⟨by rw [h.2 _ _ (by omega)]; exact j2, fun i i0 i1 => by rw [h.2 _ _ (by omega)]; exact j3 i i0 (by omega)⟩⟩
      rw [zz _ _ (by omega) (by omega) (by omega) (by omega), r5 y p y0 y1 p0 p1]
      exact rows y p y0 y1 p0 p1
    refine mP_w hM (GC_q (V := Vb) (fun a i q => ?_) r1) ?_ (fun a i q1 q2 => ?_)
    · rw [h.2 a i (by omega)]; exact j1 a i (by omega) (by omega) (by omega) (by omega)
    · rw [h.2 _ _ (by omega), h.2 _ _ (by omega), j2, j1 _ _ (by omega) (by omega) (by omega) (by omega)]
      exact ⟨K.2.2.2.1, rc⟩
    · rw [h.2 a i (by omega), j1 a i (by omega) (by omega) (by omega) (by omega), r2 a i (by omega) (by omega)]
      exact fa a i (by omega)
  · by_cases q : i = x
    · rw [q, wr_same]; exact fa _ _ (by omega)
    · rw [wr_i q]; exact cp i i0 (by omega)
end
