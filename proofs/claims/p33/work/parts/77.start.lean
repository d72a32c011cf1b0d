/-! both are made -/
theorem l8sz : szG l8 ≤ 250000 := by decide +kernel
theorem o8sz : szG [gO 8] ≤ 100 ∧ szG [gO 7] ≤ 100 := by decide +kernel
section
variable {G1 G2 : List gS} {R1 R2 V1 V2 : gV} {T : gT}
def ow0 (c : Nat) : Nat := if c < 29 then 0 else if c < 52 then 29 else if c < 57 then 52 else 57
theorem hsX_0 : hsX dT0 := by
  have d1 : dT0 0 1 = 1 := rfl
  have d2 : dT0 0 2 = 1 := rfl
  have e1 : dT0 201 0 = 1 := by unfold dT0; rw [if_neg (by omega), if_neg (by omega), if_pos (by omega)]
  have e2 : dT0 202 0 = 0 := dT_z (by omega) (by omega) (by omega)
  have e3 : dT0 203 0 = 1 := by unfold dT0; rw [if_neg (by omega), if_neg (by omega), if_pos (by omega)]
  have eS : ∀ t, 0 ≤ t → t < 128 → hsD dT0 0 t = tr0 t := fun t t0 t1 => by
    show bt (dT0 201 0) (dT0 202 0) t = tr0 t
    rw [e1, e2]; exact bt_1 ⟨t0, t1⟩
  have k00 : ∀ k : Int, 0 ≤ k → k < 1 → k = 0 := fun k k0 k1 => by omega
  have s0 : hsD dT0 0 0 = 1 := eS 0 (by omega) (by omega)
  have d3 : dT0 0 3 = 1 := rfl
  have z4 : dT0 204 0 = 0 := dT_z (by omega) (by omega) (by omega)
  have z5 : dT0 205 0 = 0 := dT_z (by omega) (by omega) (by omega)
  have z7 : dT0 207 0 = 0 := dT_z (by omega) (by omega) (by omega)
  have z8 : dT0 208 0 = 1 := by unfold dT0; rw [if_neg (by omega), if_neg (by omega), if_pos (by omega)]
  have z9 : dT0 209 0 = 1 := by unfold dT0; rw [if_neg (by omega), if_neg (by omega), if_pos (by omega)]
  have z10 : dT0 210 0 = 1 := by unfold dT0; rw [if_neg (by omega), if_neg (by omega), if_pos (by omega)]
  have z20 : dT0 220 0 = 1 := by unfold dT0; rw [if_neg (by omega), if_neg (by omega), if_pos (by omega)]
  have z30 : dT0 230 0 = 0 := dT_z (by omega) (by omega) (by omega)
  have z31 : dT0 231 0 = 1 := by unfold dT0; rw [if_neg (by omega), if_neg (by omega), if_pos (by omega)]
  have zm : ∀ s t, 0 ≤ s → s < 1 → dT0 (2 + s) t = 0 := fun s t a b => dT_z (by omega) (by omega) (by omega)
  have gt : GT 1 (mlD dT0) (dT0 230) := ⟨by omega, fun s t a b c e => by show 0 ≤ dT0 (2 + s) t ∧ dT0 (2 + s) t < 1; rw [zm s t a b]; omega, fun t a b => by show dT0 (2 + 0) t = t ∧ dT0 (2 + t) 0 = t; rw [zm 0 t (by omega) (by omega), zm t 0 a b]; omega, fun r s t a b c e f g => by show dT0 (2 + dT0 (2 + r) s) t = dT0 (2 + r) (dT0 (2 + s) t); rw [zm r s a b, zm 0 t (by omega) (by omega), zm r _ a b], fun s a b => by
    have e : s = 0 := k00 s a b
    show 0 ≤ dT0 230 s ∧ dT0 230 s < 1 ∧ dT0 (2 + s) (dT0 230 s) = 0 ∧ dT0 (2 + dT0 230 s) s = 0
    rw [e, z30, zm 0 0 (by omega) (by omega)]
    omega⟩
  unfold hsX hgD
  rw [d1, d2, d3]
  refine ⟨⟨by omega, by omega, fun k k0 k1 => ?_, fun W hW => ⟨0, by omega, by omega, fun t t0 t1 => ?_⟩, fun i j i0 i1 j0 j1 _ => by omega⟩, fun a b a0 ab b1 => by omega, fun k k0 k1 t t0 t1 => ?_, gt, ?_, fun c e c0 c1 e0 e1 => ?_, fun c c0 c1 => ?_, fun c c0 c1 => ?_, fun t t0 t1 => ?_, fun i i0 i1 => ?_⟩
  · rw [k00 k k0 k1]
    refine ⟨⟨fun t t0 t1 => by rw [k00 t t0 t1, s0]; omega, s0, fun s t p0 p1 q0 q1 _ _ => ?_⟩, ?_⟩
    · have z : dT0 (2 + s) t = 0 := dT_z (by omega) (by omega) (by omega)
      (try dsimp only)
      rw [z]; exact s0
    · (try dsimp only)
      rw [e3]
      show (1 : Int) = 0 + hsD dT0 0 0
      rw [s0]
      rfl
  · rw [k00 t t0 t1, s0]; exact hW.2.1.symm
  · rw [k00 k k0 k1, eS t (by omega) t1]
    unfold tr0
    rw [if_neg (by omega)]
  · refine ⟨by omega, fun h h0 h1 => ?_, fun c c0 c1 => ?_, fun c e c0 ce e1 => by omega, fun c e c0 c1 e0 e1 _ => by omega, fun c c0 c1 => ?_⟩
    · rw [k00 h h0 h1, z4, z7]
      refine ⟨by omega, by omega, CJ_refl gt ⟨fun t t0 t1 => by rw [k00 t t0 t1, s0]; omega, s0, fun s t p0 p1 q0 q1 _ _ => ?_⟩⟩
      show hsD dT0 0 (dT0 (2 + s) t) = 1
      rw [zm s t p0 p1]; exact s0
    · rw [k00 c c0 c1, z7, z4]; omega
    · rw [k00 c c0 c1, z8]
      show (1 : Int) = 0 + bi (dT0 204 0 = 0)
      rw [bi_t z4]; rfl
  · rw [k00 c c0 c1, k00 e e0 e1]
    show dT0 220 0 = 0 + bi (dT0 204 0 = 0) * Lq 1 (hsD dT0) (dT0 207 0) 0
    rw [z20, bi_t z4, z7, Lq_rf]; rfl
  · rw [k00 c c0 c1, z10, z8, z7]
    show (1 : Int) = 1 / (1 * dT0 203 0)
    rw [e3]; rfl
  · rw [k00 c c0 c1, z9, z7, mu_eq (by omega) (by omega)]
    show (1 : Int) = kw (1 - (0 + (if (0 : Int) < 0 then Lq 1 (hsD dT0) 0 0 * mu 1 (Lq 1 (hsD dT0)) 0 else 0)))
    rw [if_neg (by omega)]
    exact (kw_e ⟨by omega, by omega⟩).symm
  · rw [k00 t t0 t1, z5, z31]
    refine ⟨⟨by omega, fun u u0 u1 => ?_⟩, ⟨by omega, ?_, fun k k0 k1 => ?_⟩, by omega⟩
    · rw [k00 u u0 u1, s0]
      exact (bi_t ⟨0, rfl⟩).symm
    · exact zm 0 0 (by omega) (by omega)
    · have : (1 : Int).toNat = 1 := rfl
      omega
  · have z6 : dT0 206 i = 0 := dT_z (by omega) (by omega) (by omega)
    rw [z6]
    exact ⟨by omega, fun t t0 t1 _ => by rw [k00 t t0 t1]; exact s0, fun k k0 k1 => by omega⟩
theorem rf0 {V : gV} (hM : MI V 57) (h4 : V 57 4 = 1) (h5 : V 57 5 = 1) : dEq dT0 (V 57 4) (V 57 5) (fun i => V 61 i) := by
  have g := hM.2.1.1.1
  rw [h4, h5] at g
  have d1 : ∀ k, dT0 1 k = 342391 := fun k => by unfold dT0; rw [if_neg (by omega), if_pos rfl]
  have dm : ∀ s t, 0 ≤ s → s < 1 → dT0 (2 + s) t = 0 := fun s t s0 s1 => dT_z (by omega) (by omega) (by omega)
  rw [h4, h5]
  refine ⟨rfl, rfl, fun k k0 k1 => ?_, fun s t s0 s1 t0 t1 => ?_, hsX_0⟩
  · rw [d1, ← cd_id]
    unfold rc
    refine cd_e (fun p p0 p1 => ?_)
    by_cases y : p < 1
    · rw [if_pos y]
      have := g.2.2.2.2.1 k p k0 k1 p0 y
      have e : V 61 (8 * k + p) = 0 := by
        have q : 0 ≤ V 61 (8 * k + p) ∧ V 61 (8 * k + p) < 1 := this
        omega
      (try dsimp only)
      rw [e]; omega
    · rw [if_neg y]
  · (try dsimp only)
    rw [dm s t s0 s1, d1, d1, d1]
    exact ⟨by omega, by omega, (cmp_l ⟨by omega, by omega⟩).symm⟩
theorem JS_start (th : TH T V1) (c : c2 G1 R1 T 0) (hG : gX2 G1 G2) (hL : G2.length = 93) (hR : ∀ c i, c ≠ 57 → R2 c i = R1 c i) (hV : ∀ c i, c < 57 → V2 c i = V1 c i) (ly : lay8 G2 R2 57) (hM : MI V2 57) (h2 : ∀ s, 0 ≤ s → s < 4 → V2 59 s = -1) (h28 : ∀ k, 0 ≤ k → k < 3 → V2 85 k = 0) (h13 : ∀ i, V2 58 i = 0 ∧ V2 60 i = 0) (h4 : V2 57 4 = 1) (h5 : V2 57 5 = 1) (h35 : V2 57 35 = 0) (h37 : V2 57 37 = -1) (hz : szG G2 ≤ 300000) : JS G2 R2 V2 0 := by
  refine ⟨fun _ => dT0, ⟨fun c i v => if c < 57 then T c i v else if c ≤ 92 then v = V2 c i else True, ow0, fun _ => True, fun j => if j = 0 then 5004 else 0, ?_, by omega⟩, hM, rf0 hM h4 h5, fun k k0 k1 q => by rw [h28 k k0 k1] at q; omega⟩
  have th2 : TH (fun c i v => if c < 57 then T c i v else if c ≤ 92 then v = V2 c i else True) V2 := by
    intro c i
    by_cases q : c < 57
    · rw [if_pos q, hV c i q]; exact th c i
    · rw [if_neg q]
      split
      · rfl
      · trivial
  have hT : ∀ c, c < 57 → (fun c i v => if c < 57 then T c i v else if c ≤ 92 then v = V2 c i else True) c = T c := fun c q => by funext i v; dsimp only; rw [if_pos q]
  have hF : ∀ c i v, 57 ≤ c → c ≤ 57 + 35 → (fun c i v => if c < 57 then T c i v else if c ≤ 92 then v = V2 c i else True) c i v → v = V2 c i := fun c i v q1 q2 q => by dsimp only at q; rw [if_neg (by omega), if_pos (by omega)] at q; exact q
  obtain ⟨T2, eT⟩ : ∃ T2 : gT, T2 = fun c i v => if c < 57 then T c i v else if c ≤ 92 then v = V2 c i else True := ⟨_, rfl⟩
  rw [← eT] at th2 hT hF ⊢
  have c' : c1 G2 R2 T2 0 4 := c1_m c.c hG (fun c i z => Or.inl (hR c i (by omega))) (fun c z => hT c (by omega))
  have g' : gT2 G2 R2 T2 (0 + 29) (0 + 38) 1 1 1 (0 + 51) 1 1 := gT2_m c.g hG (fun c i z1 z2 => hR c i (by omega)) (fun c z1 z2 => hT c (by omega)) (hT _ (by omega)) (hT _ (by omega))
  have b' : bT G2 R2 T2 (0 + 52) := bT_m c.b hG (fun i _ => hR _ i (by omega)) (fun c z1 z2 => hT c (by omega))
  have r19 : ∀ i, R2 (0 + 19) i = R1 (0 + 19) i := fun i => hR _ i (by omega)
  refine cI.mk th2 (cC.mk c'.ly c'.fi c'.mk' c'.sc (fun v => (c'.re 7 v).mpr (fun q => by omega)) (fun v => by rw [mL_200, h37]; exact (c'.re 8 v).trans ⟨fun z => z rfl, fun z _ => z⟩) (fun s hs => ?_) (by rw [hR _ _ (by omega)]; exact c.rb) (fun c z1 z2 => ?_) ly (fun c z1 z2 => ?_) hF rfl) ?_ ?_ ?_ ?_ ?_ ?_ ?_ ?_ ?_
  · obtain ⟨q1, q2, q3, q4, q5⟩ := c'.sh s hs
    refine ⟨q1, q2, ?_, ?_, fun i v => ?_⟩
    · rw [mL_10 (by omega), (h13 _).1]; exact q3
    · rw [mL_s (by omega), h2 s (by omega) (by omega)]; exact q4
    · rw [q5 i v]
      constructor
      · intro z i0 i1
        rw [show (100 : Int) + 8 * s + i = 100 + (8 * s + i) by omega, mL_100 (by omega), (h13 _).2]
        exact z i0 i1
      · intro z i0 i1
        have := z i0 i1
        rw [show (100 : Int) + 8 * s + i = 100 + (8 * s + i) by omega, mL_100 (by omega), (h13 _).2] at this
        exact this
  · unfold ow0; rw [if_pos (by omega)]
  · unfold ow0; rw [if_neg (by omega), if_neg (by omega), if_neg (by omega)]
  · intro i hi
    by_cases q : i = 0
    · subst q
      refine Or.inr ⟨0 + 29, by rw [r19]; exact c.r0, by omega, 0 + 38, 1, 1, 1, 0 + 51, 1, 1, gI.mk g' (by omega) (by omega) (by omega) (by omega) (by omega) (by omega), fun _ => by omega, fun c z1 z2 => ?_, ?_, ?_, rfl⟩
      · unfold ow0; rw [if_neg (by omega), if_pos (by omega)]
      · rfl
      · rfl
    · exact Or.inl ⟨by rw [r19]; exact c.rn _ (by omega), if_neg q⟩
  · intro i j g hi hj
    rw [r19, r19]
    intro e1 e2
    have i0 : i = 0 := by
      by_cases q : (i : Int) = 0
      · omega
      · rw [c.rn _ q] at e1; omega
    have j0 : j = 0 := by
      by_cases q : (j : Int) = 0
      · omega
      · rw [c.rn _ q] at e2; omega
    omega
  · intro k hk
    exact Or.inl ⟨c'.n5 _, by rw [mI_10 (by omega)]; exact h28 _ (by omega) (by omega), if_neg (by omega)⟩
  · refine ⟨⟨b', fun c z1 z2 => ?_⟩, 0 + 29, 0, by omega, by rw [hR _ _ (by omega)]; exact c.rg, by rw [r19]; exact c.r0, trivial, by rw [mI_3]; exact lkT_m c.lk (fun c' _ _ => hT _ (by omega)) (hR _ _ (by omega)) (hR _ _ (by omega)) (fun p' q => hT _ (by have := c.g.t.rp; have := c.g.h.ro; omega))⟩
    unfold ow0; rw [if_neg (by omega), if_neg (by omega), if_pos (by omega)]
  · have e : S0 = 300000 := rfl
    have : sw (fun j => if j = 0 then 5004 else 0) = 5004 := rfl
    omega
  · intro j k b _ _ e
    have := c'.n5 (j : Int)
    omega
  · intro k b _ e
    have := c'.n5 (k : Int)
    omega
  · refine ⟨fun v q => ?_, fun i v i0 i1 => ?_⟩
    · rw [mI_23, rwB_0, h35]
      rw [hT _ (by omega)] at q
      exact c.r3 v q
    · rw [mI_23, rwB_0, h35] at i1
      omega
  · intro k b _ e
    have := c'.n5 (k : Int)
    omega
end
noncomputable def R00 : gV := fun _ _ => -1
noncomputable def V00 : gV := fun _ _ => 0
theorem HR_nil : HR [] [] R00 V00 := ⟨rfl, fun a ci h => by simp at h, fun a ty n h => by simp at h, ⟨fun a ci k t h => by simp at h, fun a ty n i h => by simp at h, fun a ty n h => by simp at h⟩, fun _ _ _ => ⟨rfl, rfl⟩⟩
/-- what the making of both comes to -/
theorem j_start : ∃ (F0 : Nat) (h1 : zH), zexec zb0 F0 8 102 [(4, ((0 : Nat) : Int))] [.inl (7, zdfs (zkinds 7))] = some (none, h1) ∧ h1.length = 57 ∧ zsl h1 ≤ 30000 ∧ ∃ (F1 : Nat) (h2 : zH), zexec zb0 F1 8 179 [(4, ((57 : Nat) : Int))] (h1 ++ [.inl (8, zdfs (zkinds 8))]) = some (none, h2) ∧ ∃ (G : List gS) (R V : gV), HR h2 G R V ∧ JS G R V 0 := by
  have a0 : HR [.inl (7, zdfs (zkinds 7))] [gO 7] R00 V00 := HR_new HR_nil 7
  obtain ⟨r, h1, G1, R1, V1, hh1, ⟨⟨e1, l1, x1, s1, T, th, c⟩, -, fr⟩, F0, ex⟩ := cw_po (cinit_k (G := [gO 7]) (B := 0) (R := R00) (V := V00) rfl rfl) _ a0
  subst e1
  have l1' : h1.length = 57 := by rw [hh1.1]; exact l1
  have z1 : zsl h1 ≤ 30000 := by rw [zsl_HR hh1]; have := o8sz.2; omega
  refine ⟨F0, h1, ex F0 (Nat.le_refl _) 8 (by omega), l1', z1, ?_⟩
  have hO : (G1 ++ [gO 8])[57]? = some (gO 8) := by rw [List.getElem?_append_right (by omega), l1]; rfl
  obtain ⟨r2, h2, G2, R2, V2, hh2, ⟨e2, eG, hR, ly, hM, hV, q2, q28, q13, q4, q5, q35, q37⟩, F1, ex2⟩ := minit_k (A := 57) hO (by rw [List.length_append, l1]; rfl) (fun i => (fr 57 i (by omega)).1) _ (HR_new hh1 8)
  subst e2
  refine ⟨F1, h2, ex2 F1 (Nat.le_refl _) 8 (by omega), G2, R2, V2, hh2, JS_start th c (by rw [eG]; exact gX2_t gX2_app gX2_app) (by rw [eG, List.length_append, List.length_append, l1]; rfl) hR hV ly hM q2 q28 q13 q4 q5 q35 q37 ?_⟩
  have a1 := o8sz
  have a2 := l8sz
  rw [eG, szG_app, szG_app]
  omega
