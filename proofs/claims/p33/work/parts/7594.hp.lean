/-! heap and down, exactly -/
def hpP (N H : Int) (mul : Int → Int → Int) (inv : Int → Int) (S : Int → Int → Int) (sz co nu mf : Int → Int) (h w v : Int) : Prop := (¬ (0 ≤ h ∧ h < H) ∧ v = -1000000) ∨ ((0 ≤ h ∧ h < H) ∧ ((w = 0 ∧ v = sz h) ∨ (w = 1 ∧ v = co h) ∨ (w = 2 ∧ v = bi (nu (co h) = 1)) ∨ (w = 3 ∧ inP N H S (nzU N H mul inv S h) v) ∨ (w = 4 ∧ inP N H S (coU N H mul inv S h) v) ∨ (w = 5 ∧ loP N H S (cmU N mul inv (S h)) v) ∨ (w = 6 ∧ v = kw (mf h)) ∨ (w = 7 ∧ v = bi (∀ s t, (0 ≤ s ∧ s < N) → (0 ≤ t ∧ t < N) → S h s = 1 → S h t = 1 → mul s t = mul t s)) ∨ (w = 8 ∧ v = sm (fun k => Lq N S k h) H.toNat) ∨ (w = 9 ∧ v = sm (fun k => Lq N S h k) H.toNat) ∨ ((w < 0 ∨ 9 < w) ∧ v = -1000000)))
section
variable {N H C : Int} {mul mul' : Int → Int → Int} {inv inv' : Int → Int} {S S' : Int → Int → Int} {sz sz' co co' fo nu nu' mf mf' : Int → Int} {g h w v v' : Int}
theorem hpP_u (hp : hpsP N H mul S sz) (a : hpP N H mul inv S sz co nu mf h w v) (b : hpP N H mul inv S sz co nu mf h w v') : v = v' := by
  rcases a with ⟨a, e⟩ | ⟨a, e⟩
  · rcases b with ⟨b, f⟩ | ⟨b, f⟩
    · rw [e, f]
    · exact absurd b a
  · rcases b with ⟨b, f⟩ | ⟨b, f⟩
    · exact absurd a b
    · have key : ∀ i : Int, w = i → 0 ≤ i → i ≤ 9 → ¬ (w < 0 ∨ 9 < w) := fun i q _ _ => by omega
      rcases e with ⟨i, e⟩ | ⟨i, e⟩ | ⟨i, e⟩ | ⟨i, e⟩ | ⟨i, e⟩ | ⟨i, e⟩ | ⟨i, e⟩ | ⟨i, e⟩ | ⟨i, e⟩ | ⟨i, e⟩ | ⟨i, e⟩ <;> rcases f with ⟨j, f⟩ | ⟨j, f⟩ | ⟨j, f⟩ | ⟨j, f⟩ | ⟨j, f⟩ | ⟨j, f⟩ | ⟨j, f⟩ | ⟨j, f⟩ | ⟨j, f⟩ | ⟨j, f⟩ | ⟨j, f⟩ <;> first | (exfalso; omega) | exact inP_u hp e f | exact loP_u e f | (rw [e, f])
theorem ld_c (gt : GT N mul inv) (gt' : GT N mul' inv') (hp : hpsP N H mul S sz) (hp' : hpsP N H mul' S' sz') (e : ∀ s t, 0 ≤ s → s < N → 0 ≤ t → t < N → mul s t = mul' s t) (es : ∀ k, 0 ≤ k → k < H → req N (S k) (S' k)) (h0 : 0 ≤ h ∧ h < H) (g0 : 0 ≤ g ∧ g < N) : ld N H mul inv S h g = ld N H mul' inv' S' h g := by
  have l := ld_s gt' hp' h0 g0
  refine ld_e gt hp h0 g0 l.1 ?_
  refine rqt (es _ l.1.1 l.1.2) (rqt l.2 (rqt (rqs (cj_E gt gt' e (S' h) g0)) (rqs (cj_congr gt (hp.2.2.1 h h0.1 h0.2).1.1 (es h h0.1 h0.2) g))))
theorem hpP_c (gt : GT N mul inv) (gt' : GT N mul' inv') (hp : hpsP N H mul S sz) (hp' : hpsP N H mul' S' sz') (e : ∀ s t, 0 ≤ s → s < N → 0 ≤ t → t < N → mul s t = mul' s t) (ei : ∀ t, 0 ≤ t → t < N → inv t = inv' t) (es : ∀ k, 0 ≤ k → k < H → req N (S k) (S' k)) (ez : ∀ k, 0 ≤ k → k < H → sz k = sz' k) (ec : ∀ k, 0 ≤ k → k < H → co k = co' k) (en : ∀ k, 0 ≤ k → k < H → nu (co k) = nu' (co' k)) (em : ∀ k, 0 ≤ k → k < H → mf k = mf' k) (a : hpP N H mul inv S sz co nu mf h w v) : hpP N H mul' inv' S' sz' co' nu' mf' h w v := by
  have eh := hp_n hp
  rcases a with a | ⟨a, b⟩
  · exact Or.inl a
  refine Or.inr ⟨a, ?_⟩
  have eS := es h a.1 a.2
  have sb : ∀ x y, (0 ≤ x ∧ x < H) → (0 ≤ y ∧ y < H) → Lq N S x y = Lq N S' x y := fun x y x0 y0 => bi_c (sub_iff (es x x0.1 x0.2) (es y y0.1 y0.2))
  rcases b with ⟨i, b⟩ | ⟨i, b⟩ | ⟨i, b⟩ | ⟨i, b⟩ | ⟨i, b⟩ | ⟨i, b⟩ | ⟨i, b⟩ | ⟨i, b⟩ | ⟨i, b⟩ | ⟨i, b⟩ | ⟨i, b⟩
  · exact Or.inl ⟨i, by rw [b]; exact ez h a.1 a.2⟩
  · exact Or.inr (Or.inl ⟨i, by rw [b]; exact ec h a.1 a.2⟩)
  · exact Or.inr (Or.inr (Or.inl ⟨i, by rw [b, en h a.1 a.2]⟩))
  · refine Or.inr (Or.inr (Or.inr (Or.inl ⟨i, inP_c es (fun g g0 g1 => bi_c ?_) b⟩)))
    rw [ld_c gt gt' hp hp' e es a ⟨g0, g1⟩]
  · refine Or.inr (Or.inr (Or.inr (Or.inr (Or.inl ⟨i, inP_c es (fun t t0 t1 => bi_c ?_) b⟩))))
    have key : ∀ g, 0 ≤ g → g < N → (S (ld N H mul inv S h g) t = S' (ld N H mul' inv' S' h g) t) := fun g g0 g1 => by
      have l := (ld_s gt' hp' a (g := g) ⟨g0, g1⟩).1
      rw [ld_c gt gt' hp hp' e es a ⟨g0, g1⟩]
      exact es _ l.1 l.2 t t0 t1
    exact ⟨fun z g g0 g1 => by rw [← key g g0 g1]; exact z g g0 g1, fun z g g0 g1 => by rw [key g g0 g1]; exact z g g0 g1⟩
  · refine Or.inr (Or.inr (Or.inr (Or.inr (Or.inr (Or.inl ⟨i, ?_⟩)))))
    rw [← cmU_c gt gt' e ei eS]
    exact loP_c es (fun _ _ _ => rfl) b
  · exact Or.inr (Or.inr (Or.inr (Or.inr (Or.inr (Or.inr (Or.inl ⟨i, by rw [b, em h a.1 a.2]⟩))))))
  · refine Or.inr (Or.inr (Or.inr (Or.inr (Or.inr (Or.inr (Or.inr (Or.inl ⟨i, ?_⟩)))))))
    rw [b]
    refine bi_c ⟨fun z s t s0 t0 q r => ?_, fun z s t s0 t0 q r => ?_⟩
    · rw [← e s t s0.1 s0.2 t0.1 t0.2, ← e t s t0.1 t0.2 s0.1 s0.2]
      exact z s t s0 t0 (by rw [eS s s0.1 s0.2]; exact q) (by rw [eS t t0.1 t0.2]; exact r)
    · rw [e s t s0.1 s0.2 t0.1 t0.2, e t s t0.1 t0.2 s0.1 s0.2]
      exact z s t s0 t0 (by rw [← eS s s0.1 s0.2]; exact q) (by rw [← eS t t0.1 t0.2]; exact r)
  · exact Or.inr (Or.inr (Or.inr (Or.inr (Or.inr (Or.inr (Or.inr (Or.inr (Or.inl ⟨i, by rw [b]; exact sm_congr (fun k k0 k1 => sb k h ⟨k0, by omega⟩ a)⟩))))))))
  · exact Or.inr (Or.inr (Or.inr (Or.inr (Or.inr (Or.inr (Or.inr (Or.inr (Or.inr (Or.inl ⟨i, by rw [b]; exact sm_congr (fun k k0 k1 => sb h k a ⟨k0, by omega⟩)⟩)))))))))
  · exact Or.inr (Or.inr (Or.inr (Or.inr (Or.inr (Or.inr (Or.inr (Or.inr (Or.inr (Or.inr ⟨i, b⟩)))))))))
end
section
variable {G : List gS} {R V : gV} {T : gT} {W : gV} {L : Int → Int} {I : Int → gD} {B M S N g b x p n o m y : Nat} {C D E : Int} {dd : gD}
/-- what is known of a group that is in use -/
def gKw (G : List gS) (R V : gV) (T : gT) (g p n : Nat) (C D : Int) (o m : Nat) (E : Int) (dd : gD) : Prop := gT2 G R T g p n C D o m E ∧ D ≤ C ∧ TH T V ∧ lkT T R g dd ∧ hsX dd ∧ (1 ≤ dd 0 1 ∧ dd 0 1 ≤ 120)
theorem gKw_n (k : gKw G R V T g p n C D o m E dd) : V (g + 1) 1 = dd 0 1 ∧ V (g + 10) 0 = dd 0 2 ∧ (1 ≤ dd 0 2 ∧ dd 0 2 ≤ 300) ∧ dd 0 1 ≤ C := by
  obtain ⟨u, hD, th, lk, hs, hN⟩ := k
  have e1 : V (g + 1) 1 = dd 0 1 := lk.2.1 _ (th (g + 1) 1)
  have ct := u.t.ct _ (th (g + 1) 1)
  exact ⟨e1, lk_2 lk th, ⟨hs.1.1, hs.1.2.1⟩, by omega⟩
theorem gKw_h (k : gKw G R V T g p n C D o m E dd) : hR V (g + 10) = hsD dd ∧ hfX (dd 0 1) (mlD dd) V (g + 10) := by
  obtain ⟨u, hD, th, lk, hs, hN⟩ := k
  refine ⟨?_, lk_hf lk th hs⟩
  funext k t
  show bt (V (g + 10 + 1) k) (V (g + 10 + 2) k) t = bt (dd 201 k) (dd 202 k) t
  rw [show V (g + 10 + 1) k = dd 201 k from lk_j lk th 1 (by omega) (by omega) (by omega) k, show V (g + 10 + 2) k = dd 202 k from lk_j lk th 2 (by omega) (by omega) (by omega) k]
theorem times_g (k : gKw G R V T g p n C D o m E dd) {a c : Int} (ha : 0 ≤ a ∧ a < dd 0 1) (hc : 0 ≤ c ∧ c < dd 0 1) : cpI 1 (mlD dd a c) 89 [(4, ((g + 1 : Nat) : Int)), (0, a), (0, c)] G R V := by
  have n := gKw_n k
  obtain ⟨u, hD, th, lk, hs, hN⟩ := k
  have t := times_e u.t hD th (a := a) (b := c) (by omega) (by omega)
  rw [n.1, lk.2.2.2.1 p u.t.rp a c _ ha.1 ha.2 hc.1 hc.2 (th p _)] at t
  exact t
theorem holds_g (k : gKw G R V T g p n C D o m E dd) {a t : Int} (ha : 0 ≤ a ∧ a < dd 0 2) (ht : 0 ≤ t ∧ t < dd 0 1) : cpI 2 (hsD dd a t) 59 [(4, ((g + 10 : Nat) : Int)), (0, a), (0, t)] G R V := by
  have n := gKw_n k
  have eh := (gKw_h k).1
  obtain ⟨u, hD, th, lk, hs, hN⟩ := k
  have q := holdsTurn_e (V := V) u.h.a.ly (a := a) (t := t) (by omega) (by omega)
  have e : bt (V (g + 10 + 1) a) (V (g + 10 + 2) a) t = hsD dd a t := congrFun (congrFun eh a) t
  rw [e] at q
  exact q
theorem lies_g (k : gKw G R V T g p n C D o m E dd) {a c : Int} (ha : 0 ≤ a ∧ a < dd 0 2) (hc : 0 ≤ c ∧ c < dd 0 2) : cpI 1 (Lq (dd 0 1) (hsD dd) a c) 61 [(4, ((g + 10 : Nat) : Int)), (0, a), (0, c)] G R V := by
  have n := gKw_n k
  have eh := (gKw_h k).1
  obtain ⟨u, hD, th, lk, hs, hN⟩ := k
  have q := liesIn_e (V := V) (N := dd 0 1) u.h.a.ly (by omega) (a := a) (b := c) (by omega) (by omega) (by rw [eh]; exact hs.2.2.1 a ha.1 ha.2)
  rw [eh] at q
  exact q
theorem ledBy_g (k : gKw G R V T g p n C D o m E dd) {a t : Int} (ha : 0 ≤ a ∧ a < dd 0 1) (ht : 0 ≤ t ∧ t < dd 0 1) : cpI 2 (mlD dd (mlD dd (dd 230 a) t) a) 90 [(4, ((g + 1 : Nat) : Int)), (0, a), (0, t)] G R V := by
  have n := gKw_n k
  have gt := k.2.2.2.2.1.2.2.2.1
  have ia := GT_i gt ha
  have m1 := GT_m gt ia ht
  have v3 : V (g + 1 + 2) a = dd 230 a := k.2.2.2.1.2.2.2.2.1 a _ ha.1 ha.2 (k.2.2.1 (g + 3) a)
  refine c_X6_ledBy (t_X6_ledBy_0 k.1.t.ly ⟨by have := k.2.2.2.2.2; omega, fun _ => ?_⟩)
  rw [v3]
  exact cpI_u (by omega) (times_g k ia ht) (cpI_u (by omega) (times_g k m1 ha) ⟨rfl, rfl⟩)
theorem leads_g (k : gKw G R V T g p n C D o m E dd) {a h : Int} (ha : 0 ≤ a ∧ a < dd 0 1) (hh : 0 ≤ h ∧ h < dd 0 2) : cpI 3 (nzU (dd 0 1) (dd 0 2) (mlD dd) (dd 230) (hsD dd) h a) 34 [(4, (g : Int)), (0, a), (0, h)] G R V := by
  have n := gKw_n k
  have N1 := k.2.2.2.2.2
  have hs := k.2.2.2.2.1
  have gt := hs.2.2.2.1
  have le := leads_e gt hs.1 hh ha
  have s01 := (hs.1.2.2.1 h hh.1 hh.2).1.1
  refine c_X2_leadsToItself (t_X2_leadsToItself_0 k.1.ly ?_)
  refine pool1 (f := fun i => [some (4, (g : Int)), some (0, a), some (0, h), some (0, i)]) (Inv := fun i => (0 ≤ i ∧ i ≤ dd 0 1) ∧ ∀ t, 0 ≤ t → t < i → hsD dd h t = 1 → hsD dd h (mlD dd (mlD dd (dd 230 a) t) a) = 1) (μ := fun i => (120 - i).toNat) (fun i hi ih => ?_) 0 ⟨by omega, fun t t0 t1 => by omega⟩
  obtain ⟨i0, hi⟩ := hi
  refine t_X2_leadsToItself_2 k.1.ly (fun _ => ⟨by omega, fun z => ⟨?_, rfl⟩, fun z => ?_⟩)
  · rw [show nzU (dd 0 1) (dd 0 2) (mlD dd) (dd 230) (hsD dd) h a = 1 from bi_t (le.mpr (fun t t0 t1 q => hi t t0 (by omega) q))]
  have ii : 0 ≤ i ∧ i < dd 0 1 := by omega
  have cr := cj_r gt ha ii
  have c01 := s01 _ cr.1 cr.2
  have h01 := s01 i ii.1 ii.2
  refine cpI_u (by omega) (holds_g k hh ii) ⟨by omega, fun q => ⟨by omega, ih _ ⟨by omega, fun t t0 t1 w => ?_⟩ (by omega)⟩, fun q => cpI_u (by omega) (ledBy_g k ha ii) (cpI_u (by omega) (holds_g k hh cr) ⟨by omega, fun q2 => ⟨by omega, ih _ ⟨by omega, fun t t0 t1 w => ?_⟩ (by omega)⟩, fun q2 => ⟨?_, rfl⟩⟩)⟩
  · by_cases r : t = i
    · rw [r] at w; omega
    · exact hi t t0 (by omega) w
  · by_cases r : t = i
    · rw [r]; omega
    · exact hi t t0 (by omega) w
  · rw [show nzU (dd 0 1) (dd 0 2) (mlD dd) (dd 230) (hsD dd) h a = 0 from bi_f (fun e => by
      have := le.mp e i ii.1 ii.2 (by omega)
      omega)]
theorem norm_g (k : gKw G R V T g p n C D o m E dd) {h : Int} (hh : 0 ≤ h ∧ h < dd 0 2) : cpI 1 (bi (dd 208 (dd 204 h) = 1)) 58 [(4, ((g + 10 : Nat) : Int)), (0, h)] G R V := by
  have n := gKw_n k
  obtain ⟨u, hD, th, lk, hs, hN⟩ := k
  have c4 : V (g + 10 + 4) h = dd 204 h := lk_j lk th 4 (by omega) (by omega) (by omega) h
  have c8 : V (g + 10 + 8) (dd 204 h) = dd 208 (dd 204 h) := lk_j lk th 8 (by omega) (by omega) (by omega) _
  have c := u.h.a.co _ _ (th (g + 10 + 4) h)
  refine c_X4_isNormal (t_X4_isNormal_0 u.h.a.ly ⟨by omega, fun _ => ⟨c, fun _ => ⟨fun z => ⟨?_, rfl⟩, fun z => ⟨?_, rfl⟩⟩⟩⟩)
  · rw [c4, c8] at z; rw [bi_f z]
  · rw [c4, c8] at z; rw [bi_t z]
theorem normaliser_g (k : gKw G R V T g p n C D o m E dd) {h : Int} (hh : 0 ≤ h ∧ h < dd 0 2) : cwv 4 (fun r V' => ∃ v : Int, r = some (0, v) ∧ (V' = V ∧ inP (dd 0 1) (dd 0 2) (hsD dd) (nzU (dd 0 1) (dd 0 2) (mlD dd) (dd 230) (hsD dd) h) v)) 33 [(4, (g : Int)), (0, h)] G R V := by
  have n := gKw_n k
  have N1 := k.2.2.2.2.2
  have hs := k.2.2.2.2.1
  have gt := hs.2.2.2.1
  have so : srtS (dd 0 1) (dd 0 2) (hsD dd) := hs.2.1
  obtain ⟨eh, hx⟩ := gKw_h k
  refine c_X2_normaliser (t_X2_normaliser_0 k.1.ly (cpI_u (by omega) (norm_g k hh) ⟨bi32 _, fun z => ?_, fun z _ => ⟨by omega, _, rfl, rfl, ?_⟩⟩))
  · refine pool3 (f := fun q w i => [some (4, (g : Int)), some (0, h), some (2, q), none, some (2, w), none, some (0, i)]) (Inv := fun q w i => i64 q ∧ i64 w ∧ (0 ≤ i ∧ i ≤ dd 0 1) ∧ ∀ u, 0 ≤ u → u < 128 → bt q w u = bi (u < i ∧ nzU (dd 0 1) (dd 0 2) (mlD dd) (dd 230) (hsD dd) h u = 1)) (μ := fun _ _ i => (120 - i).toNat) (fun q w i hi ih => ?_) 0 0 0 ⟨by omega, by omega, by omega, fun u u0 u1 => by rw [bt_0 ⟨u0, u1⟩]; exact (bi_f (fun z => by omega)).symm⟩
    obtain ⟨q0, w0, i0, hb⟩ := hi
    refine t_X2_normaliser_29 k.1.ly (fun _ => ⟨by omega, fun z2 => ?_, fun z2 => ?_⟩)
    · have ei : i = dd 0 1 := by omega
      have rq : req (dd 0 1) (bt q w) (nzU (dd 0 1) (dd 0 2) (mlD dd) (dd 230) (hsD dd) h) := fun u u0 u1 => by
        rw [hb u u0 (by omega)]
        rcases bi_01 (ld (dd 0 1) (dd 0 2) (mlD dd) (dd 230) (hsD dd) h u = h) with y | y
        · have y' : nzU (dd 0 1) (dd 0 2) (mlD dd) (dd 230) (hsD dd) h u = 0 := y
          rw [y', bi_f (fun r => by have := r.2; omega)]
        · have y' : nzU (dd 0 1) (dd 0 2) (mlD dd) (dd 230) (hsD dd) h u = 1 := y
          rw [y', bi_t ⟨by omega, rfl⟩]
      refine cwI_u (by omega) (indexOf_y (K := dd 0 1) k.1.h.a.ly hx (by omega) q0 w0 (fun u u0 u1 => by rw [hb u (by omega) u1]; exact bi_f (fun r => by omega)) (SM_congr gt (rqs rq) (nz_SM gt hs.1 hh))) (fun v V' hv => ⟨v, rfl, hv.1, ?_⟩)
      have e := hv.2
      rw [n.2.1, eh] at e
      exact inP_c (fun _ _ _ _ _ _ => rfl) rq e
    · have ii : 0 ≤ i ∧ i < dd 0 1 := by omega
      refine cpI_u (by omega) (leads_g k ii hh) ⟨bi32 _, fun z3 => ⟨by omega, ih _ _ _ ⟨q0, w0, by omega, fun u u0 u1 => ?_⟩ (by omega)⟩, fun z3 => cpJ_u (by omega) (lowBit_e (by omega)) (cpJ_u (by omega) (highBit_e (by omega)) ⟨by omega, ih _ _ _ ⟨t64 _, t64 _, by omega, fun u u0 u1 => ?_⟩ (by omega)⟩)⟩
      · rw [hb u u0 u1]
        refine bi_c ⟨fun r => ⟨by omega, r.2⟩, fun r => ⟨?_, r.2⟩⟩
        have : u ≠ i := fun y => by rw [y] at r; have := r.2; omega
        omega
      · rw [bt_set (by omega) ⟨u0, u1⟩, hb u u0 u1]
        by_cases y : u = i
        · rw [if_pos y]
          refine (bi_t ⟨by omega, ?_⟩).symm
          rw [y]
          exact bi_t (bi_n0 z3)
        · rw [if_neg y]
          exact bi_c ⟨fun r => ⟨by omega, r.2⟩, fun r => ⟨by omega, r.2⟩⟩
  · rw [n.2.1]
    exact nz_top gt hs.1 so hs.2.2.2.2.1 hh (bi_n0 z)
theorem normalWithin_g (k : gKw G R V T g p n C D o m E dd) {h : Int} (hh : 0 ≤ h ∧ h < dd 0 2) : cwv 2 (fun r V' => ∃ v : Int, r = some (0, v) ∧ (V' = V ∧ inP (dd 0 1) (dd 0 2) (hsD dd) (coU (dd 0 1) (dd 0 2) (mlD dd) (dd 230) (hsD dd) h) v)) 64 [(4, ((g + 10 : Nat) : Int)), (0, h)] G R V := by
  have n := gKw_n k
  have N1 := k.2.2.2.2.2
  have hs := k.2.2.2.2.1
  have gt := hs.2.2.2.1
  have so : srtS (dd 0 1) (dd 0 2) (hsD dd) := hs.2.1
  have cl := hs.2.2.2.2.1
  obtain ⟨K, K0, K1, K2⟩ := hs.1.2.2.2.1 _ (co_SM gt hs.1 hh)
  have hk : inP (dd 0 1) (dd 0 2) (hsD dd) (coU (dd 0 1) (dd 0 2) (mlD dd) (dd 230) (hsD dd) h) K := ⟨⟨K0, K1⟩, K2⟩
  have kn := co_norm gt hs.1 cl hh hk
  have kh : K ≤ h := by
    apply Classical.byContradiction
    intro l
    have a := sub_szl hs.1 (by omega) ⟨K0, K1⟩ hh kn.2 (by omega)
    have b := srt_sz hs.1 so hh.1 (show h ≤ K by omega) K1
    omega
  refine c_X4_normalWithin (t_X4_normalWithin_0 k.1.h.a.ly ?_)
  refine pool1 (f := fun i => [some (4, ((g + 10 : Nat) : Int)), some (0, h), some (0, i)]) (Inv := fun i => K ≤ i ∧ i ≤ h) (μ := fun i => i.toNat) (fun i hi ih => ?_) h ⟨kh, by omega⟩
  have nx : (0 < i) → ¬ (dd 208 (dd 204 i) = 1 ∧ sub1 (dd 0 1) (hsD dd i) (hsD dd h)) → K ≤ i - 1 ∧ i - 1 ≤ h := fun _ no => by
    have : i ≠ K := fun e => no (by rw [e]; exact kn)
    omega
  refine t_X4_normalWithin_2 k.1.h.a.ly ⟨by omega, fun z => ⟨0, rfl, rfl, (by have e0 : K = 0 := (by omega); rw [e0] at hk; exact hk)⟩, fun z => cpI_u (by omega) (norm_g k (by omega)) ⟨bi32 _, fun q => ⟨by omega, ih _ (nx z (fun r => bi_0.mp q r.1)) (by omega)⟩, fun q => cpI_u (by omega) (lies_g k (by omega) hh) ⟨bi32 _, fun q2 => ⟨by omega, ih _ (nx z (fun r => bi_0.mp q2 r.2)) (by omega)⟩, fun q2 => ⟨i, rfl, rfl, ?_⟩⟩⟩⟩
  have := co_max gt hs.1 so cl hh hk (x := i) (by omega) (bi_n0 q) (bi_n0 q2)
  rw [show i = K by omega]
  exact hk
theorem countWithin_g (k : gKw G R V T g p n C D o m E dd) {h : Int} (hh : 0 ≤ h ∧ h < dd 0 2) : cpI 2 (sm (fun x => Lq (dd 0 1) (hsD dd) x h) (dd 0 2).toNat) 65 [(4, ((g + 10 : Nat) : Int)), (0, h)] G R V := by
  have n := gKw_n k
  have N1 := k.2.2.2.2.2
  have hs := k.2.2.2.2.1
  have so : srtS (dd 0 1) (dd 0 2) (hsD dd) := hs.2.1
  have rest : ∀ w : Nat, (h + 1).toNat ≤ w → (w : Int) ≤ dd 0 2 → sm (fun x => Lq (dd 0 1) (hsD dd) x h) w = sm (fun x => Lq (dd 0 1) (hsD dd) x h) (h + 1).toNat := by
    intro w
    induction w with
    | zero => intro a _; omega
    | succ w ih =>
      intro a b
      by_cases e : (h + 1).toNat = w + 1
      · rw [e]
      · show sm (fun x => Lq (dd 0 1) (hsD dd) x h) w + Lq (dd 0 1) (hsD dd) w h = _
        rw [ih (by omega) (by omega), Lq_lt hs.1 so (by omega) (h := (w : Int)) (k := h) (by omega) hh (by omega), Int.add_zero]
  rw [rest _ (by omega) (by omega)]
  refine c_X4_countWithin (t_X4_countWithin_0 k.1.h.a.ly ?_)
  refine pool2 (f := fun q i => [some (4, ((g + 10 : Nat) : Int)), some (0, h), some (0, q), some (0, i)]) (Inv := fun q i => (0 ≤ q ∧ q ≤ i) ∧ i ≤ h + 1 ∧ q = sm (fun x => Lq (dd 0 1) (hsD dd) x h) i.toNat) (μ := fun _ i => (h + 1 - i).toNat) (fun q i hi ih => ?_) 0 0 ⟨by omega, by omega, rfl⟩
  obtain ⟨q0, i1, eq⟩ := hi
  have st := sm_s (fun x => Lq (dd 0 1) (hsD dd) x h) (show 0 ≤ i by omega)
  refine t_X4_countWithin_4 k.1.h.a.ly ⟨by omega, by omega, fun z => ⟨by rw [eq, show i = h + 1 by omega], rfl⟩, fun z => cpI_u (by omega) (lies_g k (by omega) hh) ⟨bi32 _, fun z2 => ⟨by omega, ih _ _ ⟨by omega, by omega, ?_⟩ (by omega)⟩, fun z2 => ⟨by omega, by omega, ih _ _ ⟨by omega, by omega, ?_⟩ (by omega)⟩⟩⟩
  · rw [st, eq]
    (try dsimp only)
    rw [z2, Int.add_zero]
  · rw [st, eq]
    (try dsimp only)
    rw [show Lq (dd 0 1) (hsD dd) i h = 1 from bi_t (bi_n0 z2)]
theorem countOver_g (k : gKw G R V T g p n C D o m E dd) {h : Int} (hh : 0 ≤ h ∧ h < dd 0 2) : cpI 2 (sm (fun x => Lq (dd 0 1) (hsD dd) h x) (dd 0 2).toNat) 66 [(4, ((g + 10 : Nat) : Int)), (0, h)] G R V := by
  have n := gKw_n k
  have N1 := k.2.2.2.2.2
  have hs := k.2.2.2.2.1
  have so : srtS (dd 0 1) (dd 0 2) (hsD dd) := hs.2.1
  refine c_X4_countOver (t_X4_countOver_0 k.1.h.a.ly ?_)
  refine pool2 (f := fun q i => [some (4, ((g + 10 : Nat) : Int)), some (0, h), some (0, q), some (0, i)]) (Inv := fun q i => (0 ≤ q ∧ q ≤ i) ∧ (h ≤ i ∧ i ≤ dd 0 2) ∧ q = sm (fun x => Lq (dd 0 1) (hsD dd) h x) i.toNat) (μ := fun _ i => (300 - i).toNat) (fun q i hi ih => ?_) 0 h ⟨by omega, by omega, (sm_zz (fun x x0 x1 => Lq_lt hs.1 so (by omega) hh (k := x) ⟨x0, by omega⟩ (by omega))).symm⟩
  obtain ⟨q0, i1, eq⟩ := hi
  have st := sm_s (fun x => Lq (dd 0 1) (hsD dd) h x) (show 0 ≤ i by omega)
  refine t_X4_countOver_4 k.1.h.a.ly (fun _ => ⟨by omega, fun z => ⟨by rw [eq, show i = dd 0 2 by omega], rfl⟩, fun z => cpI_u (by omega) (lies_g k hh (by omega)) ⟨bi32 _, fun z2 => ⟨by omega, ih _ _ ⟨by omega, by omega, ?_⟩ (by omega)⟩, fun z2 => ⟨by omega, by omega, ih _ _ ⟨by omega, by omega, ?_⟩ (by omega)⟩⟩⟩)
  · rw [st, eq]
    (try dsimp only)
    rw [z2, Int.add_zero]
  · rw [st, eq]
    (try dsimp only)
    rw [show Lq (dd 0 1) (hsD dd) h i = 1 from bi_t (bi_n0 z2)]
theorem twist_g (k : gKw G R V T g p n C D o m E dd) {s t : Int} (hs0 : 0 ≤ s ∧ s < dd 0 1) (ht : 0 ≤ t ∧ t < dd 0 1) : cpI 2 (cmt (mlD dd) (dd 230) s t) 37 [(4, (g : Int)), (0, s), (0, t)] G R V := by
  have n := gKw_n k
  have N1 := k.2.2.2.2.2
  have gt := k.2.2.2.2.1.2.2.2.1
  have i1 := GT_i gt hs0
  have i2 := GT_i gt ht
  have m1 := GT_m gt hs0 ht
  have m2 := GT_m gt i1 i2
  have v3 : ∀ t, 0 ≤ t → t < dd 0 1 → V (g + 3) t = dd 230 t := fun t t0 t1 => k.2.2.2.1.2.2.2.2.1 t _ t0 t1 (k.2.2.1 (g + 3) t)
  refine c_X2_twistOf (t_X2_twistOf_0 k.1.ly (cpI_u (by omega) (times_g k hs0 ht) ⟨by omega, fun _ => ⟨by omega, fun _ => ?_⟩⟩))
  rw [v3 s hs0.1 hs0.2, v3 t ht.1 ht.2]
  exact cpI_u (by omega) (times_g k i1 i2) (cpI_u (by omega) (times_g k m1 m2) ⟨by rw [cmt_tw gt hs0 ht], rfl⟩)
theorem findDerived_g (k : gKw G R V T g p n C D o m E dd) {h : Int} (hh : 0 ≤ h ∧ h < dd 0 2) : cwv 3 (fun r V' => ∃ v : Int, r = some (0, v) ∧ (V' = V ∧ loP (dd 0 1) (dd 0 2) (hsD dd) (cmU (dd 0 1) (mlD dd) (dd 230) (hsD dd h)) v)) 36 [(4, (g : Int)), (0, h)] G R V := by
  have n := gKw_n k
  have N1 := k.2.2.2.2.2
  have hs := k.2.2.2.2.1
  have gt := hs.2.2.2.1
  have s01 := (hs.1.2.2.1 h hh.1 hh.2).1.1
  obtain ⟨eh, hx⟩ := gKw_h k
  obtain ⟨Q, hQ⟩ : ∃ Q : Int → Int → Int → Prop, Q = fun i j u => u = 0 ∨ ∃ s t, ((1 ≤ t ∧ t < s ∧ s < dd 0 1) ∧ (s < i ∨ (s = i ∧ t < j))) ∧ hsD dd h s = 1 ∧ hsD dd h t = 1 ∧ cmt (mlD dd) (dd 230) s t = u := ⟨_, rfl⟩
  refine c_X2_findDerived (t_X2_findDerived_0 k.1.ly ?_)
  refine pool3 (f := fun q w i => [some (4, (g : Int)), some (0, h), some (2, q), none, some (2, w), none, some (0, i)]) (Inv := fun q w i => (1 ≤ i ∧ (i ≤ dd 0 1 ∨ i = 1)) ∧ ∀ u, 0 ≤ u → u < 128 → bt q w u = bi (Q i 0 u)) (μ := fun _ _ i => (121 - i).toNat) (fun q w i hi ih => ?_) 1 0 1 ⟨by omega, fun u u0 u1 => ?_⟩
  · obtain ⟨i0, hb⟩ := hi
    refine t_X2_findDerived_8 k.1.ly (fun _ => ⟨by omega, fun z => ?_, fun z => ?_⟩)
    · have rq : req (dd 0 1) (bt q w) (cmV (dd 0 1) (mlD dd) (dd 230) (hsD dd h)) := fun u u0 u1 => by
        rw [hb u u0 (by omega), hQ]
        refine bi_c ⟨fun r => ?_, fun r => ?_⟩
        · rcases r with r | ⟨s, t, ⟨l, _⟩, a1, a2, e⟩
          · exact Or.inl r
          · exact Or.inr ⟨s, t, l, a1, a2, e⟩
        · rcases r with r | ⟨s, t, l, a1, a2, e⟩
          · exact Or.inl r
          · exact Or.inr ⟨s, t, ⟨l, by omega⟩, a1, a2, e⟩
      refine cwI_u (by omega) (leastOver_y (K := dd 0 1) k.1.h.a.ly hx (by omega) (fun u u0 u1 => ?_)) (fun v V' hv => ⟨v, rfl, hv.1, ?_⟩)
      · rw [hb u (by omega) u1, hQ]
        refine bi_f ?_
        rintro (r | ⟨s, t, ⟨l, _⟩, a1, a2, e⟩)
        · omega
        · have := cmt_r gt (s := s) (t := t) (by omega) (by omega)
          omega
      · have e := hv.2
        rw [n.2.1, eh] at e
        exact cm_lo gt hs.1 (loP_c (fun _ _ _ _ _ _ => rfl) rq e)
    · have ii : 0 ≤ i ∧ i < dd 0 1 := by omega
      have h01 := s01 i ii.1 ii.2
      refine cpI_u (by omega) (holds_g k hh ii) ⟨by omega, fun z2 => ?_, fun z2 => ⟨by omega, ih _ _ _ ⟨by omega, fun u u0 u1 => ?_⟩ (by omega)⟩⟩
      · refine pool3 (f := fun q w j => [some (4, (g : Int)), some (0, h), some (2, q), none, some (2, w), none, some (0, i), some (0, j)]) (Inv := fun q w j => (1 ≤ j ∧ j ≤ i) ∧ ∀ u, 0 ≤ u → u < 128 → bt q w u = bi (Q i j u)) (μ := fun _ _ j => (121 - j).toNat) (fun q w j hj ih2 => ?_) q w 1 ⟨by omega, fun u u0 u1 => ?_⟩
        · obtain ⟨j0, hb2⟩ := hj
          refine t_X2_findDerived_39 k.1.ly ⟨by omega, by omega, fun z3 => ⟨by omega, ih _ _ _ ⟨by omega, fun u u0 u1 => ?_⟩ (by omega)⟩, fun z3 => ?_⟩
          · rw [hb2 u u0 u1, hQ]
            refine bi_c ⟨fun r => ?_, fun r => ?_⟩
            · rcases r with r | ⟨s, t, ⟨l, c⟩, a1, a2, e⟩
              · exact Or.inl r
              · exact Or.inr ⟨s, t, ⟨l, by omega⟩, a1, a2, e⟩
            · rcases r with r | ⟨s, t, ⟨l, c⟩, a1, a2, e⟩
              · exact Or.inl r
              · exact Or.inr ⟨s, t, ⟨l, by omega⟩, a1, a2, e⟩
          · have jj : 0 ≤ j ∧ j < dd 0 1 := by omega
            have j01 := s01 j jj.1 jj.2
            have cr := cmt_r gt ii jj
            refine cpI_u (by omega) (holds_g k hh jj) ⟨by omega, fun z4 => ⟨by omega, ih2 _ _ _ ⟨by omega, fun u u0 u1 => ?_⟩ (by omega)⟩, fun z4 => cpI_u (by omega) (twist_g k ii jj) (cpJ_u (by omega) (lowBit_e (by omega)) (cpJ_u (by omega) (highBit_e (by omega)) ⟨by omega, ih2 _ _ _ ⟨by omega, fun u u0 u1 => ?_⟩ (by omega)⟩))⟩
            · rw [hb2 u u0 u1, hQ]
              refine bi_c ⟨fun r => ?_, fun r => ?_⟩
              · rcases r with r | ⟨s, t, ⟨l, c⟩, a1, a2, e⟩
                · exact Or.inl r
                · exact Or.inr ⟨s, t, ⟨l, by omega⟩, a1, a2, e⟩
              · rcases r with r | ⟨s, t, ⟨l, c⟩, a1, a2, e⟩
                · exact Or.inl r
                · refine Or.inr ⟨s, t, ⟨l, ?_⟩, a1, a2, e⟩
                  have : ¬ (s = i ∧ t = j) := fun y => by rw [y.2] at a2; omega
                  omega
            · rw [bt_set (by omega) ⟨u0, u1⟩, hb2 u u0 u1, hQ]
              by_cases y : u = cmt (mlD dd) (dd 230) i j
              · rw [if_pos y]
                exact (bi_t (Or.inr ⟨i, j, ⟨by omega, by omega⟩, by omega, by omega, y.symm⟩)).symm
              · rw [if_neg y]
                refine bi_c ⟨fun r => ?_, fun r => ?_⟩
                · rcases r with r | ⟨s, t, ⟨l, c⟩, a1, a2, e⟩
                  · exact Or.inl r
                  · exact Or.inr ⟨s, t, ⟨l, by omega⟩, a1, a2, e⟩
                · rcases r with r | ⟨s, t, ⟨l, c⟩, a1, a2, e⟩
                  · exact Or.inl r
                  · refine Or.inr ⟨s, t, ⟨l, ?_⟩, a1, a2, e⟩
                    have : ¬ (s = i ∧ t = j) := fun q => y (by rw [← e, q.1, q.2])
                    omega
        · rw [hb u u0 u1, hQ]
          refine bi_c ⟨fun r => ?_, fun r => ?_⟩
          · rcases r with r | ⟨s, t, ⟨l, c⟩, a1, a2, e⟩
            · exact Or.inl r
            · exact Or.inr ⟨s, t, ⟨l, by omega⟩, a1, a2, e⟩
          · rcases r with r | ⟨s, t, ⟨l, c⟩, a1, a2, e⟩
            · exact Or.inl r
            · exact Or.inr ⟨s, t, ⟨l, by omega⟩, a1, a2, e⟩
      · rw [hb u u0 u1, hQ]
        refine bi_c ⟨fun r => ?_, fun r => ?_⟩
        · rcases r with r | ⟨s, t, ⟨l, c⟩, a1, a2, e⟩
          · exact Or.inl r
          · exact Or.inr ⟨s, t, ⟨l, by omega⟩, a1, a2, e⟩
        · rcases r with r | ⟨s, t, ⟨l, c⟩, a1, a2, e⟩
          · exact Or.inl r
          · refine Or.inr ⟨s, t, ⟨l, ?_⟩, a1, a2, e⟩
            have : s ≠ i := fun y => by rw [y] at a1; omega
            omega
  · rw [bt_1 ⟨u0, u1⟩, hQ]
    unfold tr0
    by_cases y : u = 0
    · rw [if_pos y]; exact (bi_t (Or.inl y)).symm
    · rw [if_neg y]
      refine (bi_f ?_).symm
      rintro (r | ⟨s, t, ⟨l, c⟩, _⟩)
      · exact y r
      · omega
/-- what is derived is kept, and is right -/
theorem derived_g (k : gKw G R V T g p n C D o m E dd) {h : Int} (hh : 0 ≤ h ∧ h < dd 0 2) : wE T 4 (dd 206 h) 35 [(4, (g : Int)), (0, h)] G R V := by
  have n := gKw_n k
  have hs := k.2.2.2.2.1
  have lk := k.2.2.2.1
  have th := k.2.2.1
  have me := lk.2.2.2.2.2.2.2.2.2.2 h hh.1 hh.2
  have lo := hs.2.2.2.2.2.2.2.2.2 h hh.1 hh.2
  have lo1 := lo.1
  have al := me.2 _ (th (g + 16) h)
  refine c_X2_derived (t_X2_derived_0 k.1.ly ⟨by omega, fun _ => ⟨fun z => ⟨_, rfl, ?_, th⟩, fun z => cwI_u (by omega) (findDerived_g k hh) (fun v V' hv => ?_)⟩⟩)
  · rcases al with q | q
    · exact absurd q z
    · exact q
  · have e : v = dd 206 h := loP_u hv.2 lo
    have hv1 := hv.2.1
    refine ⟨by omega, v, rfl, e, ?_⟩
    rw [hv.1, e]
    exact TH_wr th me.1
theorem heap_X (u : cT G R T B b g p n C D o m E) (lk : lkT T R g dd) (hs : hsX dd) (hN : 1 ≤ dd 0 1 ∧ dd 0 1 ≤ 120) (th : TH T V) {a c : Int} (ha : i32 a) (hc : i32 c) : wP T 8 (hpP (dd 0 1) (dd 0 2) (mlD dd) (dd 230) (hsD dd) (dd 203) (dd 204) (dd 208) (mu (dd 0 2) (Lq (dd 0 1) (hsD dd))) a c) 110 [(4, (B : Int)), (0, a), (0, c)] G R V := by
  have k : gKw G R V T g p n C D o m E dd := ⟨u.u.g, u.u.hD, th, lk, hs, hN⟩
  have kn := gKw_n k
  have gt := hs.2.2.2.1
  have so : srtS (dd 0 1) (dd 0 2) (hsD dd) := hs.2.1
  have cl := hs.2.2.2.2.1
  have co := u.u.g.h.a.co _ _ (th (g + 10 + 4) a)
  refine c_X7_heap (t_X7_heap_0 u.ly ⟨b, ⟨u.rb, u.u.b.ly⟩, g, ⟨u.u.rg, u.u.g.ly⟩, bI_u (isHeap_k u.u.g.h.a.ly ha) ⟨bi32 _, fun h => ?_, fun h => ⟨_, rfl, Or.inl ⟨by have := bi_0.mp h; omega, rfl⟩, th⟩⟩⟩)
  have hb := bi_nz h
  have hh : 0 ≤ a ∧ a < dd 0 2 := by omega
  have h3 : 0 ≤ a ∧ a < 300 := by omega
  have v3 : V (g + 13) a = dd 203 a := lk_j lk th 3 (by omega) (by omega) (by omega) a
  have v4 : V (g + 14) a = dd 204 a := lk_j lk th 4 (by omega) (by omega) (by omega) a
  have v9 : V (g + 19) (dd 204 a) = dd 209 (dd 204 a) := lk_j lk th 9 (by omega) (by omega) (by omega) _
  have ca := cl.2.1 a hh.1 hh.2
  have lo := hs.2.2.2.2.2.2.2.2.2 a hh.1 hh.2
  have qe := quiet_e gt hs.1 so lo
  have lo1 := lo.1
  refine ⟨hc, fun z => ⟨_, rfl, Or.inr ⟨hh, Or.inr (Or.inr (Or.inr (Or.inr (Or.inr (Or.inr (Or.inr (Or.inr (Or.inr (Or.inr ⟨z, rfl⟩)))))))))⟩, th⟩, fun z => ⟨h3, fun _ => ⟨_, rfl, Or.inr ⟨hh, Or.inl ⟨z, v3⟩⟩, th⟩⟩, fun z => ⟨h3, fun _ => ⟨_, rfl, Or.inr ⟨hh, Or.inr (Or.inl ⟨z, v4⟩)⟩, th⟩⟩, fun z => bI_u (norm_g k hh) ⟨bi32 _, fun q => ⟨_, rfl, Or.inr ⟨hh, Or.inr (Or.inr (Or.inl ⟨z, q.symm⟩))⟩, th⟩, fun q => ⟨_, rfl, Or.inr ⟨hh, Or.inr (Or.inr (Or.inl ⟨z, (bi_t (bi_nz q)).symm⟩))⟩, th⟩⟩, fun z => cwI_u (by omega) (normaliser_g k hh) (fun v V' q => ⟨v, rfl, Or.inr ⟨hh, Or.inr (Or.inr (Or.inr (Or.inl ⟨z, q.2⟩)))⟩, by rw [q.1]; exact th⟩), fun z => cwI_u (by omega) (normalWithin_g k hh) (fun v V' q => ⟨v, rfl, Or.inr ⟨hh, Or.inr (Or.inr (Or.inr (Or.inr (Or.inl ⟨z, q.2⟩))))⟩, by rw [q.1]; exact th⟩), fun z => cwI_u (by omega) (derived_g k hh) (fun v V' q => ⟨v, rfl, Or.inr ⟨hh, Or.inr (Or.inr (Or.inr (Or.inr (Or.inr (Or.inl ⟨z, by rw [q.1]; exact lo⟩)))))⟩, q.2⟩), fun z => ⟨h3, fun _ => ⟨co, fun _ => ⟨_, rfl, Or.inr ⟨hh, Or.inr (Or.inr (Or.inr (Or.inr (Or.inr (Or.inr (Or.inl ⟨z, ?_⟩))))))⟩, th⟩⟩⟩, fun z => cwI_u (by omega) (derived_g k hh) (fun v V' q => ?_), fun z => bI_u (countWithin_g k hh) ⟨_, rfl, Or.inr ⟨hh, Or.inr (Or.inr (Or.inr (Or.inr (Or.inr (Or.inr (Or.inr (Or.inr (Or.inl ⟨z, rfl⟩))))))))⟩, th⟩, fun z => bI_u (countOver_g k hh) ⟨_, rfl, Or.inr ⟨hh, Or.inr (Or.inr (Or.inr (Or.inr (Or.inr (Or.inr (Or.inr (Or.inr (Or.inr (Or.inl ⟨z, rfl⟩)))))))))⟩, th⟩⟩
  · rw [v4, v9, hs.2.2.2.2.2.2.2.1 _ ca.1.1 ca.1.2, mu_co gt hs.1 so cl hh]
  · refine ⟨by omega, fun y => ⟨_, rfl, Or.inr ⟨hh, Or.inr (Or.inr (Or.inr (Or.inr (Or.inr (Or.inr (Or.inr (Or.inl ⟨z, ?_⟩)))))))⟩, q.2⟩, fun y => ⟨_, rfl, Or.inr ⟨hh, Or.inr (Or.inr (Or.inr (Or.inr (Or.inr (Or.inr (Or.inr (Or.inl ⟨z, ?_⟩)))))))⟩, q.2⟩⟩
    · exact (bi_f (fun w => y (by rw [q.1]; exact qe.mpr w))).symm
    · exact (bi_t (qe.mp (by rw [← q.1]; exact y))).symm
def itf (F : Int → Int) : Nat → Int → Int
  | 0, h => h
  | n + 1, h => itf F n (F h)
theorem itf_s (F : Int → Int) : ∀ (n : Nat) (h : Int), itf F (n + 1) h = F (itf F n h) := by
  intro n
  induction n with
  | zero => intro h; rfl
  | succ n ih => intro h; exact ih (F h)
theorem down_X (u : cT G R T B b g p n C D o m E) (lk : lkT T R g dd) (hs : hsX dd) (hN : 1 ≤ dd 0 1 ∧ dd 0 1 ≤ 120) (th : TH T V) {a : Int} (ha : i32 a) : wE T 8 (if 0 ≤ a ∧ a ≤ 10 then itf (dd 206) a.toNat (dd 0 2 - 1) else -1) 117 [(4, (B : Int)), (0, a)] G R V := by
  have k0 : gKw G R V T g p n C D o m E dd := ⟨u.u.g, u.u.hD, th, lk, hs, hN⟩
  have kn := gKw_n k0
  have lo := hs.2.2.2.2.2.2.2.2.2
  refine c_X7_down (t_X7_down_0 u.ly ⟨ha, fun z => ⟨_, rfl, by rw [if_neg (by omega)], th⟩, fun z => ⟨fun z2 => ⟨b, ⟨u.rb, u.u.b.ly⟩, g, ⟨u.u.rg, u.u.g.ly⟩, fun _ => ⟨by omega, ?_⟩⟩, fun z2 => ⟨_, rfl, by rw [if_neg (by omega)], th⟩⟩⟩)
  rw [if_pos (by omega), kn.2.1]
  refine loop2 (f := fun l i => [some (4, (B : Int)), some (0, a), some (0, l), some (0, i)]) (Inv := fun l i V' => TH T V' ∧ (0 ≤ l ∧ l < dd 0 2) ∧ (0 ≤ i ∧ i ≤ a) ∧ l = itf (dd 206) i.toNat (dd 0 2 - 1)) (μ := fun _ i _ => (10 - i).toNat) (fun l i V1 hi ih => ?_) _ 0 V ⟨th, by omega, by omega, rfl⟩
  obtain ⟨th1, l0, i0, el⟩ := hi
  have k1 : gKw G R V1 T g p n C D o m E dd := ⟨u.u.g, u.u.hD, th1, lk, hs, hN⟩
  have l1 := (lo l l0.1 l0.2).1
  refine t_X7_down_30 u.ly ⟨by omega, by omega, fun q => ⟨_, rfl, by rw [el, show i = a by omega], th1⟩, fun q => ⟨b, ⟨u.rb, u.u.b.ly⟩, g, ⟨u.u.rg, u.u.g.ly⟩, cwI_u (by omega) (derived_g k1 l0) (fun v V' hv => ⟨by omega, ih _ _ _ ⟨hv.2, by rw [hv.1]; exact l1, by omega, ?_⟩ (by omega)⟩)⟩⟩
  rw [hv.1, show (i + 1).toNat = i.toNat + 1 by omega, itf_s, ← el]
/-! the reference's -/
abbrev rhpP (V : gV) (M : Nat) : Int → Int → Int → Prop := hpP (V M 5) (V M 12) (mMul V M) (mInv V M) (mHas V M) (fun k => V (M + 10) k) (fun k => V (M + 14) k) (fun c => V (M + 16) c) (mu (V M 12) (Lq (V M 5) (mHas V M)))
theorem ld_V (hM : MI V M) {h t : Int} (h0 : 0 ≤ h ∧ h < V M 12) (t0 : 0 ≤ t ∧ t < V M 5) : V (M + 13) (120 * h + t) = ld (V M 5) (V M 12) (mMul V M) (mInv V M) (mHas V M) h t := by
  have l := hM.2.1.2.1.2.2.1 h t h0.1 h0.2 t0.1 t0.2
  exact (ld_e (MI_gt hM) (MI_hp hM) h0 t0 ⟨l.1, l.2.1⟩ l.2.2).symm
theorem exact_x {V' : gV} (ly : lay8 G R M) (hM : MI V M) (q : qF V V' M) {U : Int → Int} (sU : SM (V M 5) (mMul V M) U) (hU : ∀ t, 0 ≤ t → t < V M 5 → V' (M + 9) (36000 + t) = U t) : cwv 3 (fun r V'' => ∃ v, r = some (0, v) ∧ (qF V V'' M ∧ inP (V M 5) (V M 12) (mHas V M) U v)) 193 [(4, (M : Int))] G R V' := by
  have mm := MI_q q hM
  have e5 : V' M 5 = V M 5 := q.1 _ _ (by omega)
  have e12 : V' M 12 = V M 12 := q.1 _ _ (by omega)
  have eM : mMul V' M = mMul V M := funext (fun s => funext (fun t => q.1 _ _ (by omega)))
  have rU : req (V M 5) (mHas V' M 300) U := fun t t0 t1 => by rw [h300]; exact hU t t0 t1
  refine cwI_u (Nat.le_refl _) (exact_e ly mm (by rw [e5, eM]; exact SM_congr (MI_gt hM) (rqs rU) sU)) (fun v V2 h => ⟨qF_trans q h.1, ?_⟩)
  have w := h.2
  rw [e5, e12] at w
  exact inP_c (qF_rows hM q) rU w
theorem normalizer_e (ly : lay8 G R M) (hM : MI V M) {h : Int} (h0 : 0 ≤ h ∧ h < V M 12) : cwv 4 (fun r V' => ∃ v, r = some (0, v) ∧ (qF V V' M ∧ inP (V M 5) (V M 12) (mHas V M) (nzU (V M 5) (V M 12) (mMul V M) (mInv V M) (mHas V M) h) v)) 194 [(4, (M : Int)), (0, h)] G R V := by
  have n := MI_N hM
  refine c_X8_normalizer (t_X8_normalizer_0 ly (cw0_u (Nat.le_add_right 1 2) (clears_e ly hM) (fun V1 hq => ?_)))
  refine loop1 (f := fun x => [some (4, (M : Int)), some (0, h), some (0, x)]) (fun x V' => 0 ≤ x ∧ x ≤ V M 5 ∧ qF V V' M ∧ ∀ t, 0 ≤ t → t < x → V' (M + 9) (36000 + t) = nzU (V M 5) (V M 12) (mMul V M) (mInv V M) (mHas V M) h t) (fun x _ => (V M 5 - x).toNat) (fun x V' hx ih => ?_) 0 V1 ⟨by omega, by omega, hq.1, fun t t0 t1 => by omega⟩
  obtain ⟨x0, x1, q, row⟩ := hx
  have e5 : V' M 5 = V M 5 := q.1 _ _ (by omega)
  have nx : ∀ v, x < V M 5 → v = nzU (V M 5) (V M 12) (mMul V M) (mInv V M) (mHas V M) h x → wpv K_X8_normalizer 3 (fun r V' => ∃ v, r = some (0, v) ∧ (qF V V' M ∧ inP (V M 5) (V M 12) (mHas V M) (nzU (V M 5) (V M 12) (mMul V M) (mInv V M) (mHas V M) h) v)) 6 [some (4, (M : Int)), some (0, h), some (0, x + 1)] [] G R (wr V' (M + 9) (36000 + x) v) := fun v c ev => ih (x + 1) _ ⟨by omega, by omega, qF_wr q (by omega) (by omega) (by omega) (by omega), fun t t0 t1 => by
    by_cases y : t = x
    · rw [y, wr_same, ev]
    · rw [wr_i (by omega)]; exact row t t0 (by omega)⟩ (by omega)
  refine t_X8_normalizer_6 ly (fun _ => ⟨by omega, fun c => ?_, fun c => ?_⟩)
  · exact cwI_u (Nat.le_refl _) (exact_x ly hM q (nz_SM (MI_gt hM) (MI_hp hM) h0) (fun t t0 t1 => row t t0 (by omega))) (fun v V'' h => ⟨v, rfl, h⟩)
  · rw [e5] at c
    have lv : V' (M + 13) (120 * h + x) = ld (V M 5) (V M 12) (mMul V M) (mInv V M) (mHas V M) h x := by rw [q.1 _ _ (by omega)]; exact ld_V hM h0 ⟨x0, c⟩
    rw [lv]
    exact ⟨by omega, by omega, by omega, by omega, fun _ => ⟨by omega, fun z => ⟨by omega, by omega, nx 0 c (bi_f z).symm⟩, fun z => ⟨by omega, by omega, nx 1 c (bi_t z).symm⟩⟩⟩
theorem core_e (ly : lay8 G R M) (hM : MI V M) {h : Int} (h0 : 0 ≤ h ∧ h < V M 12) : cwv 4 (fun r V' => ∃ v, r = some (0, v) ∧ (qF V V' M ∧ inP (V M 5) (V M 12) (mHas V M) (coU (V M 5) (V M 12) (mMul V M) (mInv V M) (mHas V M) h) v)) 195 [(4, (M : Int)), (0, h)] G R V := by
  have n := MI_N hM
  have gt := MI_gt hM
  refine c_X8_core (t_X8_core_0 ly (cw0_u (Nat.le_add_right 1 2) (clears_e ly hM) (fun V1 hq => ?_)))
  refine loop1 (f := fun x => [some (4, (M : Int)), some (0, h), some (0, x)]) (fun x V' => 0 ≤ x ∧ x ≤ V M 5 ∧ qF V V' M ∧ ∀ t, 0 ≤ t → t < x → V' (M + 9) (36000 + t) = coU (V M 5) (V M 12) (mMul V M) (mInv V M) (mHas V M) h t) (fun x _ => (V M 5 - x).toNat) (fun x V' hx ih => ?_) 0 V1 ⟨by omega, by omega, hq.1, fun t t0 t1 => by omega⟩
  obtain ⟨x0, x1, q, row⟩ := hx
  have e5 : V' M 5 = V M 5 := q.1 _ _ (by omega)
  have m := MI_q q hM
  refine t_X8_core_6 ly (fun _ => ⟨by omega, fun c => ?_, fun c => ?_⟩)
  · exact cwI_u (Nat.le_refl _) (exact_x ly hM q (co_SM gt (MI_hp hM) h0) (fun t t0 t1 => row t t0 (by omega))) (fun v V'' h => ⟨v, rfl, h⟩)
  · rw [e5] at c
    refine pool2 (f := fun y z => [some (4, (M : Int)), some (0, h), some (0, x), some (0, y), some (0, z)]) (fun y z => 0 ≤ z ∧ z ≤ V M 5 ∧ y = bi (∀ g, 0 ≤ g → g < z → mHas V M (ld (V M 5) (V M 12) (mMul V M) (mInv V M) (mHas V M) h g) x = 1)) (fun _ z => (V M 5 - z).toNat) (fun y z hy ih2 => ?_) 1 0 ⟨by omega, by omega, (bi_t (fun g g0 g1 => by omega)).symm⟩
    obtain ⟨z0, z1, ey⟩ := hy
    have y01 : y = 0 ∨ y = 1 := by rw [ey]; exact bi_01 _
    refine t_X8_core_19 ly (fun _ => ⟨by omega, fun c2 => ⟨by omega, by omega, y01, by omega, ih (x + 1) _ ⟨by omega, by omega, qF_wr q (by omega) (by omega) (by omega) (by omega), fun t t0 t1 => ?_⟩ (by omega)⟩, fun c2 => ⟨by omega, fun w => ⟨by omega, ih2 _ _ ⟨by omega, by omega, ?_⟩ (by omega)⟩, fun w => ?_⟩⟩)
    · by_cases r : t = x
      · rw [r, wr_same, ey, show z = V M 5 by omega]; rfl
      · rw [wr_i (by omega)]; exact row t t0 (by omega)
    · rw [w] at ey
      exact (bi_f (fun r => bi_0.mp ey.symm (fun g g0 g1 => r g g0 (by omega)))).symm
    · rw [e5] at c2
      have ll := ld_s gt (MI_hp hM) h0 (g := z) ⟨z0, c2⟩
      have lv : V' (M + 13) (120 * h + z) = ld (V M 5) (V M 12) (mMul V M) (mInv V M) (mHas V M) h z := by rw [q.1 _ _ (by omega)]; exact ld_V hM h0 ⟨z0, c2⟩
      rw [lv]
      have l1 := ll.1
      have hv : V' (M + 9) (120 * ld (V M 5) (V M 12) (mMul V M) (mInv V M) (mHas V M) h z + x) = mHas V M (ld (V M 5) (V M 12) (mMul V M) (mInv V M) (mHas V M) h z) x := q.1 _ _ (by omega)
      have y1 : y = 1 := by omega
      rw [y1] at ey
      have al := bi_1.mp ey.symm
      refine ⟨by omega, by omega, by omega, fun _ => ⟨by omega, by omega, by omega, fun b => ⟨fun w2 => ⟨by omega, ih2 _ _ ⟨by omega, by omega, ?_⟩ (by omega)⟩, fun w2 => ⟨by omega, ih2 _ _ ⟨by omega, by omega, ?_⟩ (by omega)⟩⟩⟩⟩
      · rw [hv] at w2
        refine (bi_f (fun r => ?_)).symm
        have := r z z0 (by omega)
        omega
      · rw [hv] at w2 b
        refine (bi_t (fun g g0 g1 => ?_)).symm
        by_cases y : g = z
        · rw [y]
          rcases b with b | b
          · exact absurd b w2
          · exact b
        · exact al g g0 (by omega)
theorem derived_e (ly : lay8 G R M) (hM : MI V M) {h : Int} (h0 : 0 ≤ h ∧ h < V M 12) : cwv 3 (fun r V' => ∃ v, r = some (0, v) ∧ (qF V V' M ∧ loP (V M 5) (V M 12) (mHas V M) (cmU (V M 5) (mMul V M) (mInv V M) (mHas V M h)) v)) 196 [(4, (M : Int)), (0, h)] G R V := by
  have n := MI_N hM
  have gt := MI_gt hM
  have s01 := ((MI_hp hM).2.2.1 h h0.1 h0.2).1.1
  obtain ⟨Q, hQ⟩ : ∃ Q : Int → Int → Int → Prop, Q = fun i j u => ∃ s t, ((0 ≤ s ∧ s < V M 5) ∧ (0 ≤ t ∧ t < V M 5) ∧ (s < i ∨ (s = i ∧ t < j))) ∧ mHas V M h s = 1 ∧ mHas V M h t = 1 ∧ cmt (mMul V M) (mInv V M) s t = u := ⟨_, rfl⟩
  refine c_X8_derived (t_X8_derived_0 ly (cw0_u (Nat.le_add_right 1 1) (clears_e ly hM) (fun V1 hq => ?_)))
  refine loop1 (f := fun x => [some (4, (M : Int)), some (0, h), some (0, x)]) (fun x V' => 0 ≤ x ∧ x ≤ V M 5 ∧ qF V V' M ∧ ∀ u, 0 ≤ u → u < V M 5 → V' (M + 9) (36000 + u) = bi (Q x 0 u)) (fun x _ => (V M 5 - x).toNat) (fun x V' hx ih => ?_) 0 V1 ⟨by omega, by omega, hq.1, fun u u0 u1 => by rw [hq.2 u u0 u1, hQ]; exact (bi_f (by rintro ⟨s, t, l, _⟩; omega)).symm⟩
  obtain ⟨x0, x1, q, row⟩ := hx
  have e5 : V' M 5 = V M 5 := q.1 _ _ (by omega)
  refine t_X8_derived_6 ly (fun _ => ⟨by omega, fun c => ?_, fun c => ?_⟩)
  · refine cwI_u (Nat.le_refl _) (least_x ly hM q (U := cmU (V M 5) (mMul V M) (mInv V M) (mHas V M h)) (fun u u0 u1 => ?_)) (fun v V'' h => ⟨v, rfl, by rw [h.1]; exact q, h.2⟩)
    rw [row u u0 u1, hQ]
    exact bi_c ⟨fun ⟨s, t, l, a1, a2, e⟩ => ⟨s, t, l.1, l.2.1, a1, a2, e⟩, fun ⟨s, t, s0, t0, a1, a2, e⟩ => ⟨s, t, ⟨s0, t0, by omega⟩, a1, a2, e⟩⟩
  · rw [e5] at c
    refine loop1 (f := fun y => [some (4, (M : Int)), some (0, h), some (0, x), some (0, y)]) (fun y V' => 0 ≤ y ∧ y ≤ V M 5 ∧ qF V V' M ∧ ∀ u, 0 ≤ u → u < V M 5 → V' (M + 9) (36000 + u) = bi (Q x y u)) (fun y _ => (V M 5 - y).toNat) (fun y V' hx ih2 => ?_) 0 V' ⟨by omega, by omega, q, row⟩
    clear q e5 row
    obtain ⟨y0, y1, q, row⟩ := hx
    have e5 : V' M 5 = V M 5 := q.1 _ _ (by omega)
    have m := MI_q q hM
    have hx_ : V' (M + 9) (120 * h + x) = mHas V M h x := q.1 _ _ (by omega)
    -- a pair that is not of the heap
    have skip : y < V M 5 → ¬ (mHas V M h x = 1 ∧ mHas V M h y = 1) → wpv K_X8_derived 2 (fun r V' => ∃ v, r = some (0, v) ∧ (qF V V' M ∧ loP (V M 5) (V M 12) (mHas V M) (cmU (V M 5) (mMul V M) (mInv V M) (mHas V M h)) v)) 16 [some (4, (M : Int)), some (0, h), some (0, x), some (0, y + 1)] [] G R V' := fun c2 no => ih2 (y + 1) V' ⟨by omega, by omega, q, fun u u0 u1 => by
      rw [row u u0 u1, hQ]
      refine bi_c ⟨fun ⟨s, t, l, a1, a2, e⟩ => ⟨s, t, ⟨l.1, l.2.1, by omega⟩, a1, a2, e⟩, fun ⟨s, t, l, a1, a2, e⟩ => ⟨s, t, ⟨l.1, l.2.1, ?_⟩, a1, a2, e⟩⟩
      have : ¬ (s = x ∧ t = y) := fun r => no (by rw [r.1] at a1; rw [r.2] at a2; exact ⟨a1, a2⟩)
      omega⟩ (by omega)
    refine t_X8_derived_16 ly (fun _ => ⟨by omega, fun z => ⟨by omega, ih (x + 1) V' ⟨by omega, by omega, q, fun u u0 u1 => ?_⟩ (by omega)⟩, fun c2 => ?_⟩)
    · rw [row u u0 u1, hQ]
      exact bi_c ⟨fun ⟨s, t, l, a1, a2, e⟩ => ⟨s, t, ⟨l.1, l.2.1, by omega⟩, a1, a2, e⟩, fun ⟨s, t, l, a1, a2, e⟩ => ⟨s, t, ⟨l.1, l.2.1, by omega⟩, a1, a2, e⟩⟩
    · rw [e5] at c2
      have hy_ : V' (M + 9) (120 * h + y) = mHas V M h y := q.1 _ _ (by omega)
      have p1 := MI_pr m (s := x) (t := y) (by omega) (by omega)
      have i1 := MI_iv m (s := x) (by omega)
      have i2 := MI_iv m (s := y) (by omega)
      have p2 := MI_pr m p1 i1
      have p3 := MI_pr m p2 i2
      have cv : V' (M + 5) (120 * V' (M + 5) (120 * V' (M + 5) (120 * x + y) + V' (M + 6) x) + V' (M + 6) y) = cmt (mMul V M) (mInv V M) x y := by
        unfold cmt
        rw [q.1 (M + 5) _ (by omega), q.1 (M + 5) _ (by omega), q.1 (M + 5) _ (by omega), q.1 (M + 6) _ (by omega), q.1 (M + 6) _ (by omega)]
      refine ⟨by omega, by omega, by omega, fun b1 => ⟨fun z => ⟨by omega, skip c2 (fun r => by rw [hx_] at z; have := r.1; omega)⟩, fun z => ⟨by omega, by omega, fun b2 => ⟨fun z2 => ?_, fun z2 => ⟨by omega, skip c2 (fun r => by rw [hy_] at z2; have := r.2; omega)⟩⟩⟩⟩⟩
      rw [hx_] at z b1
      rw [hy_] at z2 b2
      have ax : mHas V M h x = 1 := by
        rcases b1 with w | w
        · exact absurd w z
        · exact w
      have ay : mHas V M h y = 1 := by
        rcases b2 with w | w
        · exact absurd w z2
        · exact w
      rw [cv] at p3 ⊢
      refine ⟨by omega, by omega, by omega, fun _ => ⟨by omega, by omega, fun _ => ⟨by omega, by omega, fun _ => ⟨by omega, by omega, fun _ => ⟨by omega, by omega, fun _ => ⟨by omega, by omega, by omega, ih2 (y + 1) _ ⟨by omega, by omega, qF_wr q (by omega) (by omega) (by omega) (by omega), fun u u0 u1 => ?_⟩ (by omega)⟩⟩⟩⟩⟩⟩
      by_cases w : u = cmt (mMul V M) (mInv V M) x y
      · rw [w, wr_same, hQ]
        exact (bi_t ⟨x, y, ⟨by omega, by omega, by omega⟩, ax, ay, rfl⟩).symm
      · rw [wr_i (by omega), row u u0 u1, hQ]
        refine bi_c ⟨fun ⟨s, t, l, a1, a2, e⟩ => ⟨s, t, ⟨l.1, l.2.1, by omega⟩, a1, a2, e⟩, fun ⟨s, t, l, a1, a2, e⟩ => ⟨s, t, ⟨l.1, l.2.1, ?_⟩, a1, a2, e⟩⟩
        have : ¬ (s = x ∧ t = y) := fun r => w (by rw [← e, r.1, r.2])
        omega
theorem isQuiet_e (ly : lay8 G R M) (hM : MI V M) {h : Int} (h0 : 0 ≤ h ∧ h < V M 12) : cpI 1 (bi (∀ s t, (0 ≤ s ∧ s < V M 5) → (0 ≤ t ∧ t < V M 5) → mHas V M h s = 1 → mHas V M h t = 1 → mMul V M s t = mMul V M t s)) 197 [(4, (M : Int)), (0, h)] G R V := by
  have n := MI_N hM
  obtain ⟨Q, hQ⟩ : ∃ Q : Int → Int → Prop, Q = fun i j => ∀ s t, (0 ≤ s ∧ s < V M 5) → (0 ≤ t ∧ t < V M 5) → (s < i ∨ (s = i ∧ t < j)) → mHas V M h s = 1 → mHas V M h t = 1 → mMul V M s t = mMul V M t s := ⟨_, rfl⟩
  refine c_X8_isQuiet (t_X8_isQuiet_0 ly ?_)
  refine pool2 (f := fun x y => [some (4, (M : Int)), some (0, h), some (0, x), some (0, y)]) (fun x y => 0 ≤ y ∧ y ≤ V M 5 ∧ x = bi (Q y 0)) (fun _ y => (V M 5 - y).toNat) (fun x y hx ih => ?_) 1 0 ⟨by omega, by omega, by rw [hQ]; exact (bi_t (fun s t s0 t0 l => by omega)).symm⟩
  obtain ⟨y0, y1, ex⟩ := hx
  have x01 : x = 0 ∨ x = 1 := by rw [ex]; exact bi_01 _
  refine t_X8_isQuiet_4 ly (fun _ => ⟨by omega, fun c => ⟨x01, ?_, rfl⟩, fun c => ?_⟩)
  · rw [ex, hQ]
    congr 2
    exact bi_c ⟨fun r s t s0 t0 => r s t s0 t0 (by omega), fun r s t s0 t0 _ => r s t s0 t0⟩
  refine pool2 (f := fun x z => [some (4, (M : Int)), some (0, h), some (0, x), some (0, y), some (0, z)]) (fun x z => 0 ≤ z ∧ z ≤ V M 5 ∧ x = bi (Q y z)) (fun _ z => (V M 5 - z).toNat) (fun x z hx2 ih2 => ?_) x 0 ⟨by omega, by omega, ex⟩
  obtain ⟨z0, z1, ex2⟩ := hx2
  have x01 : x = 0 ∨ x = 1 := by rw [ex2]; exact bi_01 _
  have keep : z < V M 5 → (Q y z → (mHas V M h y = 1 → mHas V M h z = 1 → mMul V M y z = mMul V M z y)) → x = 1 → (1 : Int) = bi (Q y (z + 1)) := fun c2 w e => by
    rw [e] at ex2
    have al := bi_1.mp ex2.symm
    refine (bi_t ?_).symm
    have w2 := w al
    rw [hQ] at al ⊢
    intro s t s0 t0 l a1 a2
    by_cases r : s = y ∧ t = z
    · rw [r.1, r.2]
      rw [r.1] at a1
      rw [r.2] at a2
      exact w2 a1 a2
    · exact al s t s0 t0 (by omega) a1 a2
  have lose : x = 0 → (0 : Int) = bi (Q y (z + 1)) := fun e => by
    rw [e] at ex2
    refine (bi_f (fun r => bi_0.mp ex2.symm ?_)).symm
    rw [hQ] at r ⊢
    exact fun s t s0 t0 l => r s t s0 t0 (by omega)
  refine t_X8_isQuiet_15 ly (fun _ => ⟨by omega, fun c2 => ⟨by omega, ih x (y + 1) ⟨by omega, by omega, ?_⟩ (by omega)⟩, fun c2 => ⟨by omega, fun e => ⟨by omega, ih2 _ _ ⟨by omega, by omega, lose e⟩ (by omega)⟩, fun e => ?_⟩⟩)
  · rw [ex2, hQ]
    exact bi_c ⟨fun r s t s0 t0 l => r s t s0 t0 (by omega), fun r s t s0 t0 l => r s t s0 t0 (by omega)⟩
  · have e1 : x = 1 := by omega
    refine ⟨by omega, by omega, by omega, fun b1 => ⟨fun w => ⟨by omega, ih2 _ _ ⟨by omega, by omega, keep c2 (fun _ a1 => by have a1' : V (M + 9) (120 * h + y) = 1 := a1; omega) e1⟩ (by omega)⟩, fun w => ⟨by omega, by omega, fun b2 => ⟨fun w2 => ⟨by omega, ih2 _ _ ⟨by omega, by omega, keep c2 (fun _ _ a2 => by have a2' : V (M + 9) (120 * h + z) = 1 := a2; omega) e1⟩ (by omega)⟩, fun w2 => ⟨by omega, by omega, by omega, fun _ => ⟨by omega, by omega, by omega, fun _ => ⟨fun w3 => ⟨by omega, ih2 _ _ ⟨by omega, by omega, ?_⟩ (by omega)⟩, fun w3 => ⟨by omega, ih2 _ _ ⟨by omega, by omega, keep c2 (fun _ _ _ => w3) e1⟩ (by omega)⟩⟩⟩⟩⟩⟩⟩⟩
    refine (bi_f (fun r => w3 ?_)).symm
    rw [hQ] at r
    exact r y z ⟨y0, c⟩ ⟨z0, c2⟩ (Or.inr ⟨rfl, by omega⟩) (by have := b1; show V (M + 9) (120 * h + y) = 1; omega) (by have := b2; show V (M + 9) (120 * h + z) = 1; omega)
theorem heap_C (ly : lay8 G R M) (hM : MI V M) {h w : Int} (h1 : i32 h) (h2 : i32 w) : cwv 5 (fun r V' => ∃ v, r = some (0, v) ∧ (qF V V' M ∧ rhpP V M h w v)) 199 [(4, (M : Int)), (0, h), (0, w)] G R V := by
  have n := MI_N hM
  refine c_X8_heap (t_X8_heap_0 ly (cpI_u (by omega) (isHeap_c ly hM h1) ⟨bi32 _, fun z => ?_, fun z => ⟨_, rfl, qF_refl, Or.inl ⟨by have := bi_0.mp z; omega, rfl⟩⟩⟩))
  have a := bi_n0 z
  have hh : 0 ≤ h ∧ h < V M 12 := by omega
  have sg := MI_sg hM hh
  refine ⟨h2, fun q => ⟨_, rfl, qF_refl, Or.inr ⟨hh, Or.inr (Or.inr (Or.inr (Or.inr (Or.inr (Or.inr (Or.inr (Or.inr (Or.inr (Or.inr ⟨q, rfl⟩)))))))))⟩⟩, fun q => ⟨by omega, fun _ => ⟨_, rfl, qF_refl, Or.inr ⟨hh, Or.inl ⟨q, rfl⟩⟩⟩⟩, fun q => ⟨by omega, fun _ => ⟨_, rfl, qF_refl, Or.inr ⟨hh, Or.inr (Or.inl ⟨q, rfl⟩)⟩⟩⟩, fun q => cpI_u (by omega) (isNormal_e ly hM hh) ⟨bi32 _, fun y => ⟨_, rfl, qF_refl, Or.inr ⟨hh, Or.inr (Or.inr (Or.inl ⟨q, y.symm⟩))⟩⟩, fun y => ⟨_, rfl, qF_refl, Or.inr ⟨hh, Or.inr (Or.inr (Or.inl ⟨q, (bi_t (bi_n0 y)).symm⟩))⟩⟩⟩, fun q => cwI_u (by omega) (normalizer_e ly hM hh) (fun v V' y => ⟨_, rfl, y.1, Or.inr ⟨hh, Or.inr (Or.inr (Or.inr (Or.inl ⟨q, y.2⟩)))⟩⟩), fun q => cwI_u (by omega) (core_e ly hM hh) (fun v V' y => ⟨_, rfl, y.1, Or.inr ⟨hh, Or.inr (Or.inr (Or.inr (Or.inr (Or.inl ⟨q, y.2⟩))))⟩⟩), fun q => cwI_u (by omega) (derived_e ly hM hh) (fun v V' y => ⟨_, rfl, y.1, Or.inr ⟨hh, Or.inr (Or.inr (Or.inr (Or.inr (Or.inr (Or.inl ⟨q, y.2⟩)))))⟩⟩), fun q => ⟨by omega, fun _ => ⟨_, rfl, qF_refl, Or.inr ⟨hh, Or.inr (Or.inr (Or.inr (Or.inr (Or.inr (Or.inr (Or.inl ⟨q, ?_⟩))))))⟩⟩⟩, fun q => cpI_u (by omega) (isQuiet_e ly hM hh) ⟨bi32 _, fun y => ⟨_, rfl, qF_refl, Or.inr ⟨hh, Or.inr (Or.inr (Or.inr (Or.inr (Or.inr (Or.inr (Or.inr (Or.inl ⟨q, y.symm⟩)))))))⟩⟩, fun y => ⟨_, rfl, qF_refl, Or.inr ⟨hh, Or.inr (Or.inr (Or.inr (Or.inr (Or.inr (Or.inr (Or.inr (Or.inl ⟨q, (bi_t (bi_n0 y)).symm⟩)))))))⟩⟩⟩, fun q => ?_, fun q => ?_⟩
  · rw [sg, kl2i_j]
  · refine pool2 (f := fun x y => [some (4, (M : Int)), some (0, h), none, some (0, x), some (0, y)]) (fun x y => 0 ≤ y ∧ y ≤ V M 12 ∧ (0 ≤ x ∧ x ≤ y) ∧ x = sm (fun k => Lq (V M 5) (mHas V M) k h) y.toNat) (fun _ y => (V M 12 - y).toNat) (fun x y hx ih => ?_) 0 0 ⟨by omega, by omega, by omega, rfl⟩
    obtain ⟨y0, y1, x0, ex⟩ := hx
    have st := sm_s (fun k => Lq (V M 5) (mHas V M) k h) y0
    refine t_X8_heap_139 ly (fun _ => ⟨by omega, fun c => ⟨_, rfl, qF_refl, Or.inr ⟨hh, Or.inr (Or.inr (Or.inr (Or.inr (Or.inr (Or.inr (Or.inr (Or.inr (Or.inl ⟨q, by rw [ex, show y = V M 12 by omega]⟩))))))))⟩⟩, fun c => cpI_u (by omega) (lies_c ly (by omega) (by omega) (by omega)) ⟨bi32 _, fun e => ⟨by omega, by omega, ih _ _ ⟨by omega, by omega, by omega, ?_⟩ (by omega)⟩, fun e => ⟨by omega, by omega, ih _ _ ⟨by omega, by omega, by omega, ?_⟩ (by omega)⟩⟩⟩)
    · rw [st, ex]
      (try dsimp only)
      rw [show Lq (V M 5) (mHas V M) y h = 0 from e]
    · rw [st, ex]
      (try dsimp only)
      rw [show Lq (V M 5) (mHas V M) y h = 1 from bi_t (bi_n0 e)]
  · refine pool2 (f := fun x y => [some (4, (M : Int)), some (0, h), none, some (0, x), some (0, y)]) (fun x y => 0 ≤ y ∧ y ≤ V M 12 ∧ (0 ≤ x ∧ x ≤ y) ∧ x = sm (fun k => Lq (V M 5) (mHas V M) h k) y.toNat) (fun _ y => (V M 12 - y).toNat) (fun x y hx ih => ?_) 0 0 ⟨by omega, by omega, by omega, rfl⟩
    obtain ⟨y0, y1, x0, ex⟩ := hx
    have st := sm_s (fun k => Lq (V M 5) (mHas V M) h k) y0
    refine t_X8_heap_177 ly (fun _ => ⟨by omega, fun c => ⟨_, rfl, qF_refl, Or.inr ⟨hh, Or.inr (Or.inr (Or.inr (Or.inr (Or.inr (Or.inr (Or.inr (Or.inr (Or.inr (Or.inl ⟨q, by rw [ex, show y = V M 12 by omega]⟩)))))))))⟩⟩, fun c => cpI_u (by omega) (lies_c ly (by omega) (by omega) (by omega)) ⟨bi32 _, fun e => ⟨by omega, by omega, ih _ _ ⟨by omega, by omega, by omega, ?_⟩ (by omega)⟩, fun e => ⟨by omega, by omega, ih _ _ ⟨by omega, by omega, by omega, ?_⟩ (by omega)⟩⟩⟩)
    · rw [st, ex]
      (try dsimp only)
      rw [show Lq (V M 5) (mHas V M) h y = 0 from e]
    · rw [st, ex]
      (try dsimp only)
      rw [show Lq (V M 5) (mHas V M) h y = 1 from bi_t (bi_n0 e)]
noncomputable def rdv (V : gV) (M : Nat) (h : Int) : Int := the (loP (V M 5) (V M 12) (mHas V M) (cmU (V M 5) (mMul V M) (mInv V M) (mHas V M h)))
noncomputable def rdnX (V : gV) (M : Nat) (k : Int) : Int := if 0 ≤ k ∧ k ≤ 10 then itf (rdv V M) k.toNat (V M 12 - 1) else -1
theorem down_C (ly : lay8 G R M) (hM : MI V M) {k : Int} (h1 : i32 k) : cwv 4 (fun r V' => ∃ v, r = some (0, v) ∧ (qF V V' M ∧ v = rdnX V M k)) 206 [(4, (M : Int)), (0, k)] G R V := by
  have n := MI_N hM
  refine c_X8_down (t_X8_down_0 ly ⟨h1, cpI_u (by omega) (in_c (i32_64 h1) ⟨by omega, by omega⟩ ⟨by omega, by omega⟩) ⟨bi32 _, fun z => fun _ => ⟨by omega, ?_⟩, fun z => ⟨_, rfl, qF_refl, by unfold rdnX; rw [if_neg (by have := bi_0.mp z; omega)]⟩⟩⟩)
  have a := bi_n0 z
  have v : rdnX V M k = itf (rdv V M) k.toNat (V M 12 - 1) := by unfold rdnX; rw [if_pos (by omega)]
  rw [v]
  refine loop2 (f := fun x y => [some (4, (M : Int)), some (0, k), some (0, x), some (0, y)]) (fun x y V' => (0 ≤ x ∧ x < V M 12) ∧ (0 ≤ y ∧ y ≤ k) ∧ qF V V' M ∧ x = itf (rdv V M) y.toNat (V M 12 - 1)) (fun _ y _ => (k - y).toNat) (fun x y V' hx ih => ?_) _ 0 V ⟨by omega, by omega, qF_refl, rfl⟩
  obtain ⟨x0, y0, q, ex⟩ := hx
  have e5 : V' M 5 = V M 5 := q.1 _ _ (by omega)
  have e12 : V' M 12 = V M 12 := q.1 _ _ (by omega)
  have eM : mMul V' M = mMul V M := funext (fun s => funext (fun t => q.1 _ _ (by omega)))
  have eI : mInv V' M = mInv V M := funext (fun s => q.1 _ _ (by omega))
  refine t_X8_down_23 ly ⟨by omega, by omega, fun c => ⟨_, rfl, q, by rw [ex, show y = k by omega]⟩, fun c => cwI_u (Nat.le_refl _) (derived_e ly (MI_q q hM) (by omega)) (fun v V'' h => ?_)⟩
  have w := h.2
  rw [e5, e12, eM, eI, cmU_c (MI_gt hM) (MI_gt hM) (fun _ _ _ _ _ _ => rfl) (fun _ _ _ => rfl) (qF_rows hM q x x0.1 x0.2)] at w
  have w2 := loP_c (qF_rows hM q) (fun _ _ _ => rfl) w
  have ev : v = rdv V M x := the_e (fun _ _ a b => loP_u a b) w2
  have w1 := w2.1
  refine ⟨by omega, ih v (y + 1) V'' ⟨w1, by omega, qF_trans q h.1, ?_⟩ (by omega)⟩
  rw [ev, show (y + 1).toNat = y.toNat + 1 by omega, itf_s, ← ex]
theorem hp_eqd {d : gD} (hM : MI V M) (h : dQ d V M) {a w v : Int} (q : hpP (d 0 1) (d 0 2) (mlD d) (d 230) (hsD d) (d 203) (d 204) (d 208) (mu (d 0 2) (Lq (d 0 1) (hsD d))) a w v) : rhpP V M a w v := by
  obtain ⟨K, rq, sz⟩ := hp_eq hM h
  obtain ⟨CC, ce, fe, ne⟩ := gp_eq hM h
  have hs := h.2.2.2.2
  have gt := hs.2.2.2.1
  have hp := hs.1
  have cl := MI_cl hM
  have mu_ : ∀ k, 0 ≤ k → k < V M 12 → mu (d 0 2) (Lq (d 0 1) (hsD d)) k = mu (V M 12) (Lq (V M 5) (mHas V M)) k := fun k k0 k1 => mu_eqd hM h ⟨k0, k1⟩
  rw [h.2.1, K] at q hp mu_
  rw [h.2.1] at gt
  refine hpP_c gt (MI_gt hM) hp (MI_hp hM) (mul_eq hM h) (fun t t0 t1 => iv_eq hM h ⟨t0, t1⟩) rq sz ce (fun k k0 k1 => ?_) mu_ q
  have c := MI_co hM (k := k) ⟨k0, k1⟩
  rw [ce k k0 k1]
  exact ne _ c.1 c.2
theorem dn_eq {d : gD} (hM : MI V M) (h : dQ d V M) (k : Int) : (if 0 ≤ k ∧ k ≤ 10 then itf (d 206) k.toNat (d 0 2 - 1) else -1) = rdnX V M k := by
  obtain ⟨K, rq, sz⟩ := hp_eq hM h
  have hs := h.2.2.2.2
  have gt := hs.2.2.2.1
  have hp := hs.1
  have lo := hs.2.2.2.2.2.2.2.2.2
  have n := MI_N hM
  rw [h.2.1, K] at hp lo
  rw [h.2.1] at gt
  have one_ : ∀ i, 0 ≤ i → i < V M 12 → d 206 i = rdv V M i ∧ (0 ≤ d 206 i ∧ d 206 i < V M 12) := fun i i0 i1 => by
    have q := lo i i0 i1
    rw [cmU_c gt (MI_gt hM) (mul_eq hM h) (fun t t0 t1 => iv_eq hM h ⟨t0, t1⟩) (rq i i0 i1)] at q
    exact ⟨the_e (fun _ _ a b => loP_u a b) (loP_c rq (fun _ _ _ => rfl) q), q.1⟩
  have it : ∀ (w : Nat) (i : Int), 0 ≤ i → i < V M 12 → itf (d 206) w i = itf (rdv V M) w i := by
    intro w
    induction w with
    | zero => intro i _ _; rfl
    | succ w ih =>
      intro i i0 i1
      have q := one_ i i0 i1
      show itf (d 206) w (d 206 i) = itf (rdv V M) w (rdv V M i)
      rw [← q.1]
      exact ih _ q.2.1 q.2.2
  unfold rdnX
  rw [K, it k.toNat (V M 12 - 1) (by omega) (by omega)]
end
