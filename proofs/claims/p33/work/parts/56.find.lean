section
variable {G : List gS} {R V : gV} {T : gT} {x p n f : Nat} {C D : Int}
theorem close_k (u : fT G R T f) (t : tT G R T x p n C D) (hD : D ≤ C) (th : TH T V) (hm : meP V f C) (hk : maP V f C (V f 5)) {k a : Int} (k0 : 0 ≤ k ∧ k < V f 5) (ha : 0 ≤ a ∧ a < C) : cwv 3 (fun r V' => r = none ∧ TH T V' ∧ Fr (Scl f) V V') 47 [(4, (f : Int)), (0, k), (0, a), (4, (x : Int))] G R V := by
  have hc := t.c0
  have kd := (u.kd _).mp (th f 5)
  have kh := (u.kh _ _).mp (th (f + 5) k)
  refine c_X3_close (t_X3_close_0 u.ly t.ly ⟨by omega, fun _ => ⟨by omega, fun _ _ => ?_⟩⟩)
  refine loop2 (f := fun e i => [some (4, (f : Int)), some (0, k), some (0, a), some (4, (x : Int)), some (0, e), some (0, i)]) (Inv := fun e i V' => (TH T V' ∧ Fr (Scl f) V V' ∧ edP V' f C e) ∧ 1 ≤ e ∧ e ≤ 120 ∧ 0 ≤ i ∧ i ≤ 120) (μ := fun _ i _ => (120 - i).toNat) (fun e i V1 h ih => ?_) 1 0 _ ⟨⟨TH_wr (TH_wr (TH_wr th (u.nl _)) (u.nh _)) (u.ed _ _), Fr_w (Fr_w (Fr_w Fr_0 (by omega)) (by omega)) (by omega), fun i i0 i1 => by rw [show i = 0 by omega, wr_same]; omega⟩, by omega, by omega, by omega, by omega⟩
  obtain ⟨⟨th, hf, he⟩, h0, h1, h2, h3⟩ := h
  have m := (u.mb _).mp (th f 12)
  have z0 : 0 ≤ V1 f 12 * e := Int.mul_nonneg m.1 (by omega)
  have z1 : V1 f 12 * e ≤ 120 * 120 := Int.mul_le_mul m.2 h1 (by omega) (by omega)
  have fin : TH T (wr V1 f 17 (V1 f 12 * e)) ∧ Fr (Scl f) V (wr V1 f 17 (V1 f 12 * e)) := ⟨TH_wr th ((u.ns _).mpr (by omega)), Fr_w hf (by omega)⟩
  refine t_X3_close_43 u.ly t.ly ⟨by omega, by omega, fun _ _ => ⟨by omega, rfl, fin⟩, fun hi => ⟨fun _ _ => ⟨by omega, rfl, fin⟩, fun _ => ?_⟩⟩
  refine loop2 (f := fun e j => [some (4, (f : Int)), some (0, k), some (0, a), some (4, (x : Int)), some (0, e), some (0, i), some (0, j)]) (Inv := fun e j V' => (TH T V' ∧ Fr (Scl f) V V' ∧ edP V' f C e) ∧ i < e ∧ e ≤ 120 ∧ 0 ≤ j ∧ j ≤ 9) (μ := fun _ j _ => (9 - j).toNat) (fun e j V2 h4 ih2 => ?_) e 0 V1 ⟨⟨th, hf, he⟩, by omega, by omega, by omega, by omega⟩
  obtain ⟨⟨th, hf, he⟩, h4, h5, h6, h7⟩ := h4
  have km := (u.km _ _).mp (th (f + 6) k)
  have hm2 := meP_f hm hf (by omega) (by omega)
  have hk2 := maP_f hk hf (by omega) (by omega)
  have ei := he i h2 h4
  have nx : ∀ V3 : gV, ∀ v : Int, 0 ≤ v ∧ v ≤ C - 1 → e < 120 → (TH T V3 ∧ Fr (S15 f) V2 V3) → TH T (wr V3 (f + 11) e v) ∧ Fr (Scl f) V (wr V3 (f + 11) e v) ∧ edP (wr V3 (f + 11) e v) f C (e + 1) := by
    intro V3 v hv he3 h8
    refine ⟨TH_wr h8.1 (u.ed _ _), Fr_w (Fr_t hf (Fr_m h8.2 (by omega))) (by omega), fun q q0 q1 => ?_⟩
    by_cases e2 : q = e
    · rw [e2, wr_same]; omega
    · rw [wr_i e2, h8.2 _ _ (by omega)]; exact he q q0 (by omega)
  have go : ∀ b : Int, 0 ≤ b ∧ b < C → cwv 2 (fun r V8 => ∃ v9 : Int, r = some (0, v9) ∧ (0 ≤ v9 ∧ v9 ≤ C - 1) ∧ V8 = V2) 89 [(4, (x : Int)), (0, V2 (f + 11) i), (0, b)] G R V2 := fun b hb => cwv_mono (by omega) (times_k t hD th ei hb) (fun r V' h => h)
  refine t_X3_close_60 u.ly t.ly ⟨by omega, fun _ => ⟨by omega, fun _ => ⟨by omega, ih _ _ _ ⟨⟨th, hf, he⟩, by omega, by omega, by omega, by omega⟩ (by omega)⟩, fun _ => ⟨fun _ => ⟨by omega, fun _ => ?_⟩, fun hj => ⟨by omega, by omega, by omega, fun _ => ⟨by omega, fun _ => ?_⟩⟩⟩⟩⟩
  · refine pI_u (go a ha) (fun v hv _ _ => pI_u (holds_c (by omega)) (fun w hw => ⟨by omega, fun _ => ⟨by omega, ih2 _ _ _ ⟨⟨th, hf, he⟩, by omega, by omega, by omega, by omega⟩ (by omega)⟩, fun _ => ⟨by omega, fun _ => ⟨by omega, ih2 _ _ _ ⟨⟨th, hf, he⟩, by omega, by omega, by omega, by omega⟩ (by omega)⟩, fun e1 => cw0_u (by omega) (addMembersTimes_k u t hD th hm2 (by omega)) (fun V3 h8 => ⟨by omega, by omega, by omega, by omega, ih2 _ _ _ ⟨nx V3 v hv e1 h8, by omega, by omega, by omega, by omega⟩ (by omega)⟩)⟩⟩))
  · have hb := hk2 k j k0.1 k0.2 h6 hj
    refine pI_u (go _ hb) (fun v hv _ _ => pI_u (holds_c (by omega)) (fun w hw => ⟨by omega, fun _ => ⟨by omega, ih2 _ _ _ ⟨⟨th, hf, he⟩, by omega, by omega, by omega, by omega⟩ (by omega)⟩, fun _ => ⟨by omega, fun _ => ⟨by omega, ih2 _ _ _ ⟨⟨th, hf, he⟩, by omega, by omega, by omega, by omega⟩ (by omega)⟩, fun e1 => cw0_u (by omega) (addMembersTimes_k u t hD th hm2 (by omega)) (fun V3 h8 => ⟨by omega, by omega, by omega, by omega, ih2 _ _ _ ⟨nx V3 v hv e1 h8, by omega, by omega, by omega, by omega⟩ (by omega)⟩)⟩⟩))
theorem addKind_k (u : fT G R T f) (t : tT G R T x p n C D) (th : TH T V) (hk : maP V f C (V f 5)) {k a : Int} (k0 : 0 ≤ k ∧ k < V f 5) (ha : 0 ≤ a ∧ a < C) : cwv 3 (fun r V' => ∃ v : Int, r = some (0, v) ∧ (0 ≤ v ∧ v ≤ 1) ∧ TH T V' ∧ maP V' f C (V' f 5) ∧ V f 5 ≤ V' f 5 ∧ V f 0 ≤ V' f 0 ∧ Fr (Sak f) V V') 51 [(4, (f : Int)), (0, k), (0, a), (4, (x : Int))] G R V := by
  have hc := t.c0
  have kd := (u.kd _).mp (th f 5)
  have cn := (u.cn _).mp (th f 0)
  refine c_X3_addKind (t_X3_addKind_0 u.ly t.ly (fun _ _ => ⟨fun _ => ⟨0, rfl, by omega, th, hk, by omega, by omega, Fr_0⟩, fun h3 => ?_⟩))
  refine cwI_u (by omega) (addNew_k u th) (fun v V1 h => ?_)
  obtain ⟨hv, h1, h2, th1, f1⟩ := h
  have e5 : V1 f 5 = V f 5 := f1 _ _ (by omega)
  have hk1 := maP_f hk f1 (by omega) (by omega)
  refine ⟨by omega, fun v0 => ?_, fun v0 => ⟨0, rfl, by omega, th1, by rw [e5]; exact hk1, by omega, by omega, Fr_m f1 (by omega)⟩⟩
  refine cw0_u (by omega) (keepMakersF_k u th1 (by rw [e5]; exact k0) (by omega) ha hc.2 (by rw [e5]; exact hk1)) (fun V2 h => ?_)
  obtain ⟨th2, hk2, f2⟩ := h
  have e52 : V2 f 5 = V1 f 5 := f2 _ _ (by omega)
  have e02 : V2 f 0 = V1 f 0 := f2 _ _ (by omega)
  refine fun _ => ⟨by omega, ?_⟩
  have sk : maP (wr V2 (f + 5) (V2 f 5) (V f 0)) f C (V f 5 + 1) := maP_f (S := fun c _ => c = f + 5) (by rw [← e5]; exact hk2) (Fr_w Fr_0 rfl) (by omega) (by omega)
  refine loop1 (f := fun h => [some (4, (f : Int)), none, none, some (4, (x : Int)), some (0, V f 0), some (0, h)]) (Inv := fun h V' => (TH T V' ∧ maP V' f C (V f 5 + 1) ∧ V' f 5 = V f 5 ∧ V f 0 ≤ V' f 0 ∧ Fr (Sak f) V V') ∧ 0 ≤ h ∧ h ≤ 300) (μ := fun h _ => (300 - h).toNat) (fun h V3 hh ih => ?_) _ _ ⟨⟨TH_wr th2 ((u.kh _ _).mpr (by omega)), sk, by rw [wr_a (by omega)]; omega, by rw [wr_a (by omega)]; omega, Fr_w (Fr_t (Fr_m f1 (by omega)) (Fr_m f2 (by omega))) (by omega)⟩, by omega, by omega⟩
  obtain ⟨⟨th3, k3, e3, c3, f3⟩, g0, g1⟩ := hh
  have fin : cwv 3 (fun r V' => r = none ∧ V' = V3) 0 [] G R V3 → True := fun _ => trivial
  have post : TH T (wr V3 f 5 (V3 f 5 + 1)) ∧ maP (wr V3 f 5 (V3 f 5 + 1)) f C ((wr V3 f 5 (V3 f 5 + 1)) f 5) ∧ V f 5 ≤ (wr V3 f 5 (V3 f 5 + 1)) f 5 ∧ V f 0 ≤ (wr V3 f 5 (V3 f 5 + 1)) f 0 ∧ Fr (Sak f) V (wr V3 f 5 (V3 f 5 + 1)) := by
    refine ⟨TH_wr th3 ((u.kd _).mpr (by omega)), ?_, by rw [wr_same]; omega, by rw [wr_i (by omega)]; omega, Fr_w f3 (by omega)⟩
    rw [wr_same, e3]
    exact maP_f (S := fun c i => c = f ∧ i = 5) k3 (Fr_w Fr_0 (by omega)) (by omega) (by omega)
  refine t_X3_addKind_46 u.ly t.ly (fun _ => ⟨by omega, fun _ _ => ⟨by omega, 1, rfl, by omega, post⟩, fun _ => ⟨fun _ _ => ⟨by omega, 1, rfl, by omega, post⟩, fun _ => ?_⟩⟩)
  refine loop1 (f := fun m => [some (4, (f : Int)), none, none, some (4, (x : Int)), some (0, V f 0), some (0, h), some (0, m)]) (Inv := fun m V' => (TH T V' ∧ maP V' f C (V f 5 + 1) ∧ V' f 5 = V f 5 ∧ V f 0 ≤ V' f 0 ∧ Fr (Sak f) V V') ∧ 0 ≤ m ∧ m ≤ 4) (μ := fun m _ => (4 - m).toNat) (fun m V4 hh ih2 => ?_) 0 V3 ⟨⟨th3, k3, e3, c3, f3⟩, by omega, by omega⟩
  obtain ⟨⟨th4, k4, e4, c4, f4⟩, m0, m1⟩ := hh
  have mm := (t.mm _).mp (th4 x 2)
  refine t_X3_addKind_66 u.ly t.ly (fun _ => ⟨by omega, fun _ => ⟨by omega, ih _ _ ⟨⟨th4, k4, e4, c4, f4⟩, by omega, by omega⟩ (by omega)⟩, fun _ => ?_⟩)
  refine cw0_u (by omega) (leadToNew_k u t th4 (by omega) (by omega)) (fun V5 h5 => ?_)
  obtain ⟨th5, f5⟩ := h5
  have e55 : V5 f 5 = V4 f 5 := f5 _ _ (by omega)
  have e50 : V5 f 0 = V4 f 0 := f5 _ _ (by omega)
  have k5 := maP_f k4 f5 (by omega) (by omega)
  have I5 : TH T V5 ∧ maP V5 f C (V f 5 + 1) ∧ V5 f 5 = V f 5 ∧ V f 0 ≤ V5 f 0 ∧ Fr (Sak f) V V5 := ⟨th5, k5, by omega, by omega, Fr_t f4 (Fr_m f5 (by omega))⟩
  refine fun i1 i2 => pI_u (indexFrom_k u th5 (by omega) i1 i2) (fun v hv => ⟨by omega, fun _ => ⟨by omega, ih2 _ _ ⟨I5, by omega, by omega⟩ (by omega)⟩, fun _ => ?_⟩)
  refine cwI_u (by omega) (addNew_k u th5) (fun w V6 h6 => ?_)
  obtain ⟨hw, g1, g2, th6, f6⟩ := h6
  have e65 : V6 f 5 = V5 f 5 := f6 _ _ (by omega)
  have k6 := maP_f k5 f6 (by omega) (by omega)
  have F6 : Fr (Sak f) V V6 := Fr_t I5.2.2.2.2 (Fr_m f6 (by omega))
  refine ⟨by omega, fun _ => ⟨by omega, ih2 _ _ ⟨⟨th6, k6, by omega, by omega, F6⟩, by omega, by omega⟩ (by omega)⟩, fun _ => ⟨0, rfl, by omega, th6, fun k' m' q0 q1 q2 q3 => k6 k' m' q0 (by omega) q2 q3, by omega, by omega, F6⟩⟩
theorem growFrom_k (u : fT G R T f) (t : tT G R T x p n C D) (hD : D ≤ C) (th : TH T V) (hs : seP V f C) (hk : maP V f C (V f 5)) {k : Int} (k0 : 0 ≤ k ∧ k < V f 5) : cwv 4 (fun r V' => ∃ v : Int, r = some (0, v) ∧ (0 ≤ v ∧ v ≤ 1) ∧ TH T V' ∧ seP V' f C ∧ maP V' f C (V' f 5) ∧ V f 0 ≤ V' f 0) 45 [(4, (f : Int)), (0, k), (4, (x : Int))] G R V := by
  have hc := t.c0
  have kd := (u.kd _).mp (th f 5)
  have kh := (u.kh _ _).mp (th (f + 5) k)
  refine c_X3_growFrom (t_X3_growFrom_0 u.ly t.ly ⟨by omega, fun _ => ?_⟩)
  refine cw0_u (by omega) (gatherMembers_k u t hD th kh) (fun V1 h => ?_)
  obtain ⟨th1, m1, f1⟩ := h
  refine loop1 (f := fun i => [some (4, (f : Int)), some (0, k), some (4, (x : Int)), some (0, V (f + 5) k), some (0, i)]) (Inv := fun i V' => (TH T V' ∧ seP V' f C ∧ meP V' f C ∧ maP V' f C (V' f 5) ∧ V f 5 ≤ V' f 5 ∧ V f 0 ≤ V' f 0) ∧ 0 ≤ i ∧ i ≤ 120) (μ := fun i _ => (120 - i).toNat) (fun i V2 h ih => ?_) 0 V1 ⟨⟨th1, seP_f hs f1 (by omega) (by omega), m1, by rw [f1 f 5 (by omega)]; exact maP_f hk f1 (by omega) (by omega), by rw [f1 f 5 (by omega)]; omega, by rw [f1 f 0 (by omega)]; omega⟩, by omega, by omega⟩
  obtain ⟨⟨th2, s2, m2, k2, c5, c0⟩, h0, h1⟩ := h
  have sd := (u.sd _).mp (th2 f 9)
  refine t_X3_growFrom_16 u.ly t.ly (fun _ => ⟨by omega, fun _ => ⟨1, rfl, by omega, th2, s2, k2, c0⟩, fun hi => ⟨by omega, fun _ _ => ⟨by omega, fun e8 => ?_⟩⟩⟩)
  refine pI_u (holds_c e8) (fun v hv => ⟨by omega, fun _ => ⟨by omega, ih _ _ ⟨⟨th2, s2, m2, k2, c5, c0⟩, by omega, by omega⟩ (by omega)⟩, fun _ _ => ?_⟩)
  have hsd := s2 i h0 hi
  refine cw0_u (by omega) (close_k u t hD th2 m2 k2 (by omega) hsd) (fun V3 h => ?_)
  obtain ⟨th3, f3⟩ := h
  have e35 : V3 f 5 = V2 f 5 := f3 _ _ (by omega)
  have e30 : V3 f 0 = V2 f 0 := f3 _ _ (by omega)
  have e39 : V3 f 9 = V2 f 9 := f3 _ _ (by omega)
  have e38 : V3 (f + 8) i = V2 (f + 8) i := f3 _ _ (by omega)
  have s3 := seP_f s2 f3 (by omega) (by omega)
  have m3 := meP_f m2 f3 (by omega) (by omega)
  have k3 : maP V3 f C (V3 f 5) := by rw [e35]; exact maP_f k2 f3 (by omega) (by omega)
  refine fun i1 i2 => pI_u (indexFrom_k u th3 (by omega) i1 i2) (fun v hv => ⟨by omega, fun _ => ⟨by omega, ih _ _ ⟨⟨th3, s3, m3, k3, by omega, by omega⟩, by omega, by omega⟩ (by omega)⟩, fun _ _ => ?_⟩)
  refine cwI_u (by omega) (addKind_k u t th3 k3 (by omega) (by rw [e38]; exact hsd)) (fun w V4 h => ?_)
  obtain ⟨hw, th4, k4, g5, g0, f4⟩ := h
  have s4 := seP_f s3 f4 (by omega) (by omega)
  have m4 := meP_f m3 f4 (by omega) (by omega)
  exact ⟨by omega, fun _ => ⟨by omega, ih _ _ ⟨⟨th4, s4, m4, k4, by omega, by omega⟩, by omega, by omega⟩ (by omega)⟩, fun _ => ⟨0, rfl, by omega, th4, s4, k4, by omega⟩⟩
theorem find_k (u : fT G R T f) (t : tT G R T x p n C D) (hD : D ≤ C) (th : TH T V) : cwv 5 (fun r V' => ∃ v : Int, r = some (0, v) ∧ (0 ≤ v ∧ v ≤ 1) ∧ TH T V' ∧ 1 ≤ V' f 0) 39 [(4, (f : Int)), (4, (x : Int))] G R V := by
  refine c_X3_find (t_X3_find_0 u.ly t.ly ?_)
  refine cw0_u (by omega) (gatherSeeds_k u t hD (TH_wr (TH_wr th ((u.cn _).mpr (by omega))) ((u.kd _).mpr (by omega)))) (fun V1 h1 => ?_)
  refine cw0_u (by omega) (fillLed_k u t hD h1.1) (fun V2 h2 => ?_)
  refine cw0_u (by omega) (startNought_k u h2.1 (seP_f h1.2 h2.2 (by omega) (by omega))) (fun V3 h3 => ?_)
  refine loop1 (f := fun k => [some (4, (f : Int)), some (4, (x : Int)), some (0, k)]) (Inv := fun k V' => (TH T V' ∧ seP V' f C ∧ maP V' f C (V' f 5) ∧ 1 ≤ V' f 0) ∧ 0 ≤ k ∧ k ≤ 300) (μ := fun k _ => (300 - k).toNat) (fun k V4 h ih => ?_) 0 V3 ⟨⟨h3.1, h3.2.1, h3.2.2.1, by omega⟩, by omega, by omega⟩
  obtain ⟨⟨th4, s4, k4, c4⟩, h0, h1⟩ := h
  refine t_X3_find_26 u.ly t.ly (fun _ => ⟨by omega, fun _ => ⟨1, rfl, by omega, th4, c4⟩, fun _ => ⟨fun _ => ⟨1, rfl, by omega, th4, c4⟩, fun _ => ?_⟩⟩)
  refine cwI_u (by omega) (growFrom_k u t hD th4 s4 k4 (by omega)) (fun v V5 h5 => ⟨by omega, fun _ => ⟨by omega, ih _ _ ⟨⟨h5.2.1, h5.2.2.1, h5.2.2.2.1, by omega⟩, by omega, by omega⟩ (by omega)⟩, fun _ => ⟨0, rfl, by omega, h5.2.1, by omega⟩⟩)
end
