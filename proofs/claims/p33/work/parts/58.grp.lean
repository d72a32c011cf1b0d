/-! a group: its turns and its heaps -/
def gT2 (G : List gS) (R : gV) (T : gT) (g p n : Nat) (C D : Int) (o m : Nat) (E : Int) : Prop := (lay2 G R g) ∧ (tT G R T (g + 1) p n C D) ∧ (hT G R T (g + 10) o m E)
theorem gT2.ly {G : List gS} {R : gV} {T : gT} {g p n : Nat} {C D : Int} {o m : Nat} {E : Int} (h : gT2 G R T g p n C D o m E) : lay2 G R g := h.1
theorem gT2.t {G : List gS} {R : gV} {T : gT} {g p n : Nat} {C D : Int} {o m : Nat} {E : Int} (h : gT2 G R T g p n C D o m E) : tT G R T (g + 1) p n C D := h.2.1
theorem gT2.h {G : List gS} {R : gV} {T : gT} {g p n : Nat} {C D : Int} {o m : Nat} {E : Int} (h : gT2 G R T g p n C D o m E) : hT G R T (g + 10) o m E := h.2.2
theorem gT2.mk {G : List gS} {R : gV} {T : gT} {g p n : Nat} {C D : Int} {o m : Nat} {E : Int} (h_ly : lay2 G R g) (h_t : tT G R T (g + 1) p n C D) (h_h : hT G R T (g + 10) o m E) : gT2 G R T g p n C D o m E := ⟨h_ly, h_t, h_h⟩
section
variable {G : List gS} {R V : gV} {T : gT} {g p n o m : Nat} {C D E : Int}
theorem leads_k (u : gT2 G R T g p n C D o m E) (hD : D ≤ C) (th : TH T V) {a b : Int} (ha : 0 ≤ a ∧ a < C) (hb : 0 ≤ b ∧ b < 300) : pI 3 0 1 34 [(4, (g : Int)), (0, a), (0, b)] G R V := by
  have hc := u.t.c0
  have c := u.t.ct _ (th (g + 1) 1)
  refine c_X2_leadsToItself (t_X2_leadsToItself_0 u.ly ?_)
  refine pool1 (f := fun i => [some (4, (g : Int)), some (0, a), some (0, b), some (0, i)]) (Inv := fun i => 0 ≤ i ∧ i ≤ 120) (μ := fun i => (120 - i).toNat) (fun i hi ih => ?_) 0 (by omega)
  exact t_X2_leadsToItself_2 u.ly (fun _ => ⟨by omega, fun _ => ⟨1, rfl, by omega, rfl⟩, fun _ => pI_u (holdsTurn_k u.h.a hb (by omega)) (fun v hv => ⟨by omega, fun _ => ⟨by omega, ih _ (by omega) (by omega)⟩, fun _ => pI_u (ledBy_k u.t hD th ha (by omega)) (fun w hw => pI_u (holdsTurn_k u.h.a hb (by omega)) (fun z hz => ⟨by omega, fun _ => ⟨by omega, ih _ (by omega) (by omega)⟩, fun _ => ⟨0, rfl, by omega, rfl⟩⟩))⟩)⟩)
theorem normaliser_k (u : gT2 G R T g p n C D o m E) (hD : D ≤ C) (th : TH T V) {b : Int} (hb : 0 ≤ b ∧ b < 300) : pI 4 (-1) 299 33 [(4, (g : Int)), (0, b)] G R V := by
  have hc := u.t.c0
  have c := u.t.ct _ (th (g + 1) 1)
  have cn := u.h.a.cn _ (th (g + 10) 0)
  refine c_X2_normaliser (t_X2_normaliser_0 u.ly (pI_u (isNormal_k u.h.a th hb) (fun v hv => ⟨by omega, fun _ => ?_, fun _ _ => ⟨by omega, _, rfl, by omega, rfl⟩⟩)))
  refine pool3 (f := fun q w i => [some (4, (g : Int)), some (0, b), some (2, q), none, some (2, w), none, some (0, i)]) (Inv := fun q w i => i64 q ∧ i64 w ∧ 0 ≤ i ∧ i ≤ 120) (μ := fun _ _ i => (120 - i).toNat) (fun q w i hi ih => ?_) 0 0 0 (by omega)
  refine t_X2_normaliser_29 u.ly (fun _ => ⟨by omega, fun _ => pI_u (indexOf_k u.h.a th hi.1 hi.2.1) (fun v hv => ⟨v, rfl, hv, rfl⟩), fun _ => pI_u (leads_k u hD th (by omega) hb) (fun v hv => ⟨by omega, fun _ => ⟨by omega, ih _ _ _ ⟨hi.1, hi.2.1, by omega, by omega⟩ (by omega)⟩, fun _ => pJ_u (lowBit_c (by omega)) (fun z hz => pJ_u (highBit_c (by omega)) (fun z2 hz2 => ⟨by omega, ih _ _ _ ⟨t64 _, t64 _, by omega, by omega⟩ (by omega)⟩))⟩)⟩)
theorem twistOf_k (u : gT2 G R T g p n C D o m E) (hD : D ≤ C) (th : TH T V) {a b : Int} (ha : 0 ≤ a ∧ a < C) (hb : 0 ≤ b ∧ b < C) : pI 2 0 (C - 1) 37 [(4, (g : Int)), (0, a), (0, b)] G R V := by
  have hc := u.t.c0
  have i1 := (u.t.iv _ _).mp (th (g + 1 + 2) a)
  have i2 := (u.t.iv _ _).mp (th (g + 1 + 2) b)
  exact c_X2_twistOf (t_X2_twistOf_0 u.ly (pI_u (times_k u.t hD th ha hb) (fun v hv => ⟨by omega, fun _ => ⟨by omega, fun _ => pI_u (times_k u.t hD th i1 i2) (fun w hw => pI_u (times_k u.t hD th (by omega) (by omega)) (fun z hz => ⟨z, rfl, hz, rfl⟩))⟩⟩)))
theorem findDerived_k (u : gT2 G R T g p n C D o m E) (hD : D ≤ C) (th : TH T V) {b : Int} (hb : 0 ≤ b ∧ b < 300) : pI 3 0 299 36 [(4, (g : Int)), (0, b)] G R V := by
  have hc := u.t.c0
  have c := u.t.ct _ (th (g + 1) 1)
  refine c_X2_findDerived (t_X2_findDerived_0 u.ly ?_)
  refine pool3 (f := fun q w i => [some (4, (g : Int)), some (0, b), some (2, q), none, some (2, w), none, some (0, i)]) (Inv := fun _ _ i => 0 ≤ i ∧ i ≤ 120) (μ := fun _ _ i => (120 - i).toNat) (fun q w i hi ih => ?_) 1 0 1 (by omega)
  refine t_X2_findDerived_8 u.ly (fun _ => ⟨by omega, fun _ => pI_u (leastOver_k u.h.a th) (fun v hv => ⟨v, rfl, hv, rfl⟩), fun _ => pI_u (holdsTurn_k u.h.a hb (by omega)) (fun v hv => ⟨by omega, fun _ => ?_, fun _ => ⟨by omega, ih _ _ _ (by omega) (by omega)⟩⟩)⟩)
  refine pool3 (f := fun q w j => [some (4, (g : Int)), some (0, b), some (2, q), none, some (2, w), none, some (0, i), some (0, j)]) (Inv := fun _ _ j => 0 ≤ j ∧ j ≤ 120) (μ := fun _ _ j => (120 - j).toNat) (fun q w j hj ih2 => ?_) q w 1 (by omega)
  exact t_X2_findDerived_39 u.ly ⟨by omega, by omega, fun _ => ⟨by omega, ih _ _ _ (by omega) (by omega)⟩, fun _ => pI_u (holdsTurn_k u.h.a hb (by omega)) (fun v hv => ⟨by omega, fun _ => ⟨by omega, ih2 _ _ _ (by omega) (by omega)⟩, fun _ => pI_u (twistOf_k u hD th (by omega) (by omega)) (fun w hw => pJ_u (lowBit_c (by omega)) (fun z hz => pJ_u (highBit_c (by omega)) (fun z2 hz2 => ⟨by omega, ih2 _ _ _ (by omega) (by omega)⟩)))⟩)⟩
end
