/-! join, exactly -/
def jU (A B : Int → Int) (w : Int) : Int → Int := fun t => if w = 0 then (if A t = 1 ∧ B t = 1 then 1 else 0) else (if A t = 1 ∨ B t = 1 then 1 else 0)
def jnP (N H : Int) (S : Int → Int → Int) (h k w v : Int) : Prop := (¬ ((0 ≤ h ∧ h < H) ∧ (0 ≤ k ∧ k < H) ∧ (w = 0 ∨ w = 1)) ∧ v = -1) ∨ (((0 ≤ h ∧ h < H) ∧ (0 ≤ k ∧ k < H)) ∧ ((w = 0 ∧ inP N H S (jU (S h) (S k) w) v) ∨ (w = 1 ∧ loP N H S (jU (S h) (S k) w) v)))
section
variable {N H : Int} {S S' : Int → Int → Int} {A B A' B' : Int → Int} {mul : Int → Int → Int} {sz : Int → Int} {h k w v v' : Int}
theorem jU_01 (t : Int) : jU A B w t = 0 ∨ jU A B w t = 1 := by
  unfold jU
  split
  · split
    · exact Or.inr rfl
    · exact Or.inl rfl
  · split
    · exact Or.inr rfl
    · exact Or.inl rfl
theorem jU_c (ea : req N A A') (eb : req N B B') : req N (jU A B w) (jU A' B' w) := fun t t0 t1 => by
  unfold jU
  rw [ea t t0 t1, eb t t0 t1]
theorem jnP_u (hp : hpsP N H mul S sz) (a : jnP N H S h k w v) (b : jnP N H S h k w v') : v = v' := by
  rcases a with ⟨a1, a2⟩ | ⟨a1, a2⟩
  · rcases b with ⟨b1, b2⟩ | ⟨b1, b2⟩
    · rw [a2, b2]
    · rcases b2 with b2 | b2
      · exact absurd ⟨b1.1, b1.2, Or.inl b2.1⟩ a1
      · exact absurd ⟨b1.1, b1.2, Or.inr b2.1⟩ a1
  · rcases b with ⟨b1, b2⟩ | ⟨b1, b2⟩
    · rcases a2 with a2 | a2
      · exact absurd ⟨a1.1, a1.2, Or.inl a2.1⟩ b1
      · exact absurd ⟨a1.1, a1.2, Or.inr a2.1⟩ b1
    · rcases a2 with a2 | a2
      · rcases b2 with b2 | b2
        · exact inP_u hp a2.2 b2.2
        · have := a2.1; have := b2.1; omega
      · rcases b2 with b2 | b2
        · have := a2.1; have := b2.1; omega
        · exact loP_u a2.2 b2.2
theorem jnP_c (e : ∀ k, 0 ≤ k → k < H → req N (S k) (S' k)) (a : jnP N H S h k w v) : jnP N H S' h k w v := by
  rcases a with a | ⟨a1, a2⟩
  · exact Or.inl a
  · refine Or.inr ⟨a1, ?_⟩
    have eU := jU_c (w := w) (e h a1.1.1 a1.1.2) (e k a1.2.1 a1.2.2)
    rcases a2 with a2 | a2
    · exact Or.inl ⟨a2.1, inP_c e eU a2.2⟩
    · exact Or.inr ⟨a2.1, loP_c e eU a2.2⟩
theorem SM_rq (N1 : 1 ≤ N) (mr : ∀ s t, 0 ≤ s → s < N → 0 ≤ t → t < N → 0 ≤ mul s t ∧ mul s t < N) (e : req N A B) (h : SM N mul A) : SM N mul B := by
  refine ⟨fun t t0 t1 => by rw [← e t t0 t1]; exact h.1 t t0 t1, by rw [← e 0 (by omega) (by omega)]; exact h.2.1, fun s t a0 a1 b0 b1 h1 h2 => ?_⟩
  have m := mr s t a0 a1 b0 b1
  rw [← e _ m.1 m.2]
  exact h.2.2 s t a0 a1 b0 b1 (by rw [e s a0 a1]; exact h1) (by rw [e t b0 b1]; exact h2)
theorem SM_and (hA : SM N mul A) (hB : SM N mul B) : SM N mul (jU A B 0) := by
  have e : ∀ t, jU A B 0 t = if A t = 1 ∧ B t = 1 then 1 else 0 := fun t => by unfold jU; rw [if_pos rfl]
  refine ⟨fun t _ _ => jU_01 t, by rw [e, if_pos ⟨hA.2.1, hB.2.1⟩], fun s t s0 s1 t0 t1 hs ht => ?_⟩
  rw [e] at hs ht ⊢
  have hs' : A s = 1 ∧ B s = 1 := by
    apply Classical.byContradiction
    intro q
    rw [if_neg q] at hs
    omega
  have ht' : A t = 1 ∧ B t = 1 := by
    apply Classical.byContradiction
    intro q
    rw [if_neg q] at ht
    omega
  rw [if_pos ⟨hA.2.2 s t s0 s1 t0 t1 hs'.1 ht'.1, hB.2.2 s t s0 s1 t0 t1 hs'.2 ht'.2⟩]
end
section
variable {G : List gS} {R V : gV} {T : gT} {W : gV} {L : Int → Int} {I : Int → gD} {B M S N g b x p n o m y : Nat} {C D E : Int}
theorem isWay_e {e : Int} (he : i32 e) : cpI 1 (bi (e = 0 ∨ e = 1)) 140 [(0, e)] G R V :=
  c_X7_isWay (t_X7_isWay_0 ⟨he, fun z => ⟨by rw [bi_t (Or.inl z)], rfl⟩, fun z => ⟨fun z1 => ⟨by rw [bi_f (fun q => by rcases q with q | q; exact z q; exact z1 q)], rfl⟩, fun z1 => ⟨by rw [bi_t (Or.inr z1)], rfl⟩⟩⟩)
abbrev wP (T : gT) (d : Nat) (P : Int → Prop) (y : Nat) (as : List zV) (G : List gS) (R V : gV) : Prop := cwv d (fun r V' => ∃ v : Int, r = some (0, v) ∧ P v ∧ TH T V') y as G R V
theorem opP {y : Nat} {as : List zV} {P : Int → Prop} (h : CI G R V B M S N W L I) (k : ∀ (T : gT) (g p n : Nat) (C D : Int) (o m : Nat) (E : Int), cT G R T B (B + 52) g p n C D o m E → lkT T R g (I 3) → TH T V → wP T 8 P y as G R V) : cw 8 (fun r G' R' V' => ∃ v : Int, r = some (0, v) ∧ P v ∧ CI G' R' V' B M S N W L I) y as G R V := by
  obtain ⟨T, ow, us, w, h, hN⟩ := h
  obtain ⟨g, p, n, C, D, o, m, E, u, lk⟩ := cI_cTl h
  refine cw_mono (by omega) (k T g p n C D o m E u lk h.th) (fun r G' R' V' q => ?_)
  obtain ⟨e1, e2, v, q1, q2, q3⟩ := q
  rw [e1, e2]
  exact ⟨v, q1, q2, T, ow, us, w, cI_v h q3, hN⟩
theorem join_X {dd : gD} (u : cT G R T B b g p n C D o m E) (lk : lkT T R g dd) (hs : hsX dd) (hN : 1 ≤ dd 0 1 ∧ dd 0 1 ≤ 120) (mr : ∀ s t, 0 ≤ s → s < dd 0 1 → 0 ≤ t → t < dd 0 1 → 0 ≤ dd (2 + s) t ∧ dd (2 + s) t < dd 0 1) (th : TH T V) {a c e : Int} (ha : i32 a) (hc : i32 c) (he : i32 e) : wP T 8 (jnP (dd 0 1) (dd 0 2) (hsD dd) a c e) 112 [(4, (B : Int)), (0, a), (0, c), (0, e)] G R V := by
  have hx := lk_hf lk th hs
  have e0 : V (g + 10) 0 = dd 0 2 := lk.2.2.2.2.2.2.1 _ (th (g + 10) 0)
  have e1 : ∀ i, V (g + 11) i = dd 201 i := fun i => lk.2.2.2.2.2.2.2.2.1 1 (by omega) (by omega) (by omega) i _ (th (g + 11) i)
  have e2 : ∀ i, V (g + 12) i = dd 202 i := fun i => lk.2.2.2.2.2.2.2.2.1 2 (by omega) (by omega) (by omega) i _ (th (g + 12) i)
  have eh : hR V (g + 10) = hsD dd := by
    funext k t
    show bt (V (g + 11) k) (V (g + 12) k) t = bt (dd 201 k) (dd 202 k) t
    rw [e1, e2]
  have h3 := hs.1.2.1
  have zb := hs.2.2.1
  refine c_X7_join (t_X7_join_0 u.ly ⟨b, ⟨u.rb, u.u.b.ly⟩, g, ⟨u.u.rg, u.u.g.ly⟩, bI_u (isHeap_k u.u.g.h.a.ly ha) ⟨bi32 _, fun z => ⟨_, rfl, Or.inl ⟨by have := bi_0.mp z; omega, rfl⟩, th⟩, fun z => bI_u (isHeap_k u.u.g.h.a.ly hc) ⟨bi32 _, fun z2 => ⟨_, rfl, Or.inl ⟨by have := bi_0.mp z2; omega, rfl⟩, th⟩, fun z2 => bI_u (isWay_e he) ⟨bi32 _, fun z3 => ?_, fun z3 => ⟨_, rfl, Or.inl ⟨by have := bi_0.mp z3; omega, rfl⟩, th⟩⟩⟩⟩⟩)
  have hz := bi_nz z
  have hz2 := bi_nz z2
  have hz3 := bi_nz z3
  have za : ∀ t, dd 0 1 ≤ t → t < 128 → bt (V (g + 11) a) (V (g + 12) a) t = 0 := fun t t0 t1 => by rw [e1, e2]; exact zb a (by omega) (by omega) t t0 t1
  have zc : ∀ t, dd 0 1 ≤ t → t < 128 → bt (V (g + 11) c) (V (g + 12) c) t = 0 := fun t t0 t1 => by rw [e1, e2]; exact zb c (by omega) (by omega) t t0 t1
  have ea : ∀ t, bt (V (g + 11) a) (V (g + 12) a) t = hsD dd a t := fun t => by rw [e1, e2]
  have ec : ∀ t, bt (V (g + 11) c) (V (g + 12) c) t = hsD dd c t := fun t => by rw [e1, e2]
  refine ⟨he, fun w1 => ⟨by omega, fun i1 => ⟨by omega, fun i2 i3 i4 => ?_⟩⟩, fun w0 => ⟨by omega, fun i1 => ⟨by omega, fun i2 i3 i4 => ?_⟩⟩⟩
  · have eU : req (dd 0 1) (bt (jor (V (g + 11) a) (V (g + 11) c)) (jor (V (g + 12) a) (V (g + 12) c))) (jU (hsD dd a) (hsD dd c) e) := fun t t0 t1 => by
      rw [bt_or ⟨t0, by omega⟩, ea, ec]
      unfold jU
      rw [if_neg w1]
    refine cwI_u (by omega) (leastOver_y (K := dd 0 1) u.u.g.h.a.ly hx (by omega) (fun t t0 t1 => by rw [bt_or ⟨by omega, t1⟩, za t t0 t1, zc t t0 t1]; rfl)) (fun v V' hv => ⟨v, rfl, Or.inr ⟨by omega, Or.inr ⟨by omega, ?_⟩⟩, by rw [hv.1]; exact th⟩)
    have q := hv.2
    rw [e0, eh] at q
    exact loP_c (fun _ _ _ _ _ _ => rfl) eU q
  · have eU : req (dd 0 1) (bt (jand (V (g + 11) a) (V (g + 11) c)) (jand (V (g + 12) a) (V (g + 12) c))) (jU (hsD dd a) (hsD dd c) e) := fun t t0 t1 => by
      rw [bt_and ⟨t0, by omega⟩, ea, ec]
      unfold jU
      rw [if_pos w0]
    have sA := (hs.1.2.2.1 a (by omega) (by omega)).1
    have sC := (hs.1.2.2.1 c (by omega) (by omega)).1
    have sU0 := SM_and sA sC
    refine cwI_u (by omega) (indexOf_y (K := dd 0 1) u.u.g.h.a.ly hx (by omega) (t64 _) (t64 _) (fun t t0 t1 => by rw [bt_and ⟨by omega, t1⟩, za t t0 t1]; rfl) ?_) (fun v V' hv => ⟨v, rfl, Or.inr ⟨by omega, Or.inl ⟨w0, ?_⟩⟩, by rw [hv.1]; exact th⟩)
    · rw [w0] at eU
      exact SM_rq hN.1 mr (rqs eU) sU0
    · have q := hv.2
      rw [e0, eh] at q
      exact inP_c (fun _ _ _ _ _ _ => rfl) eU q
/-! the reference's -/
theorem h300 : mHas V M 300 = fun t => V (M + 9) (36000 + t) := by
  funext t
  show V (M + 9) (120 * 300 + t) = V (M + 9) (36000 + t)
  rw [show (120 * 300 : Int) = 36000 from rfl]
theorem marked_e (ly : lay8 G R M) (hM : MI V M) : cpI 1 (sm (mHas V M 300) (V M 5).toNat) 192 [(4, (M : Int))] G R V := by
  have n := MI_N hM
  rw [h300]
  refine c_X8_marked (t_X8_marked_0 ly ?_)
  refine pool2 (f := fun x y => [some (4, (M : Int)), some (0, x), some (0, y)]) (fun x y => 0 ≤ y ∧ y ≤ V M 5 ∧ (0 ≤ x ∧ x ≤ y) ∧ x = sm (fun t => V (M + 9) (36000 + t)) y.toNat) (fun _ y => (V M 5 - y).toNat) (fun x y hx ih => ?_) 0 0 ⟨by omega, by omega, by omega, rfl⟩
  obtain ⟨y0, y1, x0, hx⟩ := hx
  have st := sm_s (fun t => V (M + 9) (36000 + t)) y0
  refine t_X8_marked_4 ly (fun _ => ⟨by omega, fun c => ⟨?_, rfl⟩, fun c => ⟨by omega, by omega, fun q => ⟨fun z => ⟨by omega, by omega, ih _ _ ⟨by omega, by omega, by omega, ?_⟩ (by omega)⟩, fun z => ⟨by omega, by omega, ih _ _ ⟨by omega, by omega, by omega, ?_⟩ (by omega)⟩⟩⟩⟩)
  · rw [hx, show y = V M 5 by omega]
  · rw [st, ← hx]
    (try dsimp only)
    omega
  · rw [st, ← hx]
    (try dsimp only)
    omega
theorem least_e (ly : lay8 G R M) (hM : MI V M) : cwv 2 (fun r V' => ∃ v, r = some (0, v) ∧ (V' = V ∧ loP (V M 5) (V M 12) (mHas V M) (mHas V M 300) v)) 188 [(4, (M : Int))] G R V := by
  have n := MI_N hM
  obtain ⟨w, w0, w1, w2⟩ := hM.2.1.2.1.2.1.2.2.2.1 (fun _ => 1) ⟨fun _ _ _ => Or.inr rfl, rfl, fun _ _ _ _ _ _ _ _ => rfl⟩
  refine c_X8_least (t_X8_least_0 ly ?_)
  refine pool2 (f := fun x y => [some (4, (M : Int)), some (0, x), some (0, y)]) (fun x y => 0 ≤ y ∧ y ≤ V M 12 ∧ ((x = -1 ∧ y ≤ w ∧ ∀ k, 0 ≤ k → k < y → ¬ sub1 (V M 5) (mHas V M 300) (mHas V M k)) ∨ loP (V M 5) (V M 12) (mHas V M) (mHas V M 300) x)) (fun _ y => (V M 12 - y).toNat) (fun x y hx ih => ?_) (-1) 0 ⟨by omega, by omega, Or.inl ⟨rfl, by omega, fun k k0 k1 => by omega⟩⟩
  obtain ⟨y0, y1, hx⟩ := hx
  have fin : ¬ x = -1 → loP (V M 5) (V M 12) (mHas V M) (mHas V M 300) x := fun q => by
    rcases hx with z | z
    · exact absurd z.1 q
    · exact z
  have xr : i32 x := by
    rcases hx with z | z
    · have := z.1; omega
    · have := z.1; omega
  refine t_X8_least_4 ly (fun _ => ⟨by omega, fun c => ⟨x, rfl, rfl, ?_⟩, fun c => ⟨xr, fun z => ⟨x, rfl, rfl, fin z⟩, fun z => ?_⟩⟩)
  · rcases hx with z | z
    · have := z.2.1; omega
    · exact z
  have hx' : ∀ k, 0 ≤ k → k < y → ¬ sub1 (V M 5) (mHas V M 300) (mHas V M k) := by
    rcases hx with q | q
    · exact q.2.2
    · have := q.1; omega
  refine cpI_u (Nat.le_refl _) (lies_c ly (by omega) (by omega) (by omega)) ⟨bi32 _, fun z2 => ⟨by omega, ih x (y + 1) ⟨by omega, by omega, Or.inl ⟨z, ?_, fun k k0 k1 => ?_⟩⟩ (by omega)⟩, fun z2 => ⟨by omega, ih y (y + 1) ⟨by omega, by omega, Or.inr ⟨⟨y0, c⟩, bi_n0 z2, hx'⟩⟩ (by omega)⟩⟩
  · have ne : y ≠ w := by
      intro e
      rw [e] at z2
      exact bi_0.mp z2 (fun t t0 t1 _ => w2 t t0 t1)
    rcases hx with q | q
    · have := q.2.1; omega
    · have := q.1; omega
  · by_cases q : k = y
    · rw [q]; exact bi_0.mp z2
    · exact hx' k k0 (by omega)
theorem exact_e (ly : lay8 G R M) (hM : MI V M) (sF : SM (V M 5) (mMul V M) (mHas V M 300)) : cwv 3 (fun r V' => ∃ v, r = some (0, v) ∧ (qF V V' M ∧ inP (V M 5) (V M 12) (mHas V M) (mHas V M 300) v)) 193 [(4, (M : Int))] G R V := by
  have n := MI_N hM
  have sb := sm_b (f := mHas V M 300) (n := (V M 5).toNat) (fun i i0 i1 => by rcases sF.1 i i0 (by omega) with z | z <;> omega)
  refine c_X8_exact (t_X8_exact_0 ly (cpI_u (Nat.le_add_right 1 1) (marked_e ly hM) ⟨by omega, fun _ => ?_⟩))
  obtain ⟨s, es⟩ : ∃ s, s = sm (mHas V M 300) (V M 5).toNat := ⟨_, rfl⟩
  rw [← es]
  have q2 : qF V (wr V (M + 10) 300 s) M := qF_wr qF_refl (by omega) (by omega) (by omega) (by omega)
  have e5 : wr V (M + 10) 300 s M 5 = V M 5 := q2.1 _ _ (by omega)
  have eH : mHas (wr V (M + 10) 300 s) M = mHas V M := funext (fun k => funext (fun t => wr_a (by omega)))
  refine cwI_u (Nat.le_refl _) (among_c (V := wr V (M + 10) 300 s) ly (h := 300) (n := V M 12) (by omega) (by omega) (by omega)) (fun w V' h2 => ⟨w, rfl, by rw [h2.1]; exact q2, ?_⟩)
  unfold alk at h2
  rw [eH, e5] at h2
  rcases h2.2 with z | z
  · exfalso
    obtain ⟨k, k0, k1, k2⟩ := hM.2.1.2.1.2.1.2.2.2.1 _ sF
    refine z.2 k k0 k1 ⟨?_, k2⟩
    rw [wr_i (by omega), wr_same, es]
    have a : V (M + 10) k = sm (mHas V M k) (V M 5).toNat := (hM.2.1.2.1.2.1.2.2.1 k k0 k1).2
    rw [a]
    exact rqm k2
  · exact ⟨⟨z.1, z.2.1⟩, z.2.2.2⟩
theorem join_C (ly : lay8 G R M) (hM : MI V M) {h k w : Int} (h1 : i32 h) (h2 : i32 k) (h3 : i32 w) : cwv 4 (fun r V' => ∃ v, r = some (0, v) ∧ (qF V V' M ∧ jnP (V M 5) (V M 12) (mHas V M) h k w v)) 201 [(4, (M : Int)), (0, h), (0, k), (0, w)] G R V := by
  have n := MI_N hM
  have gt := (GC_N hM.2.1).1
  refine c_X8_join (t_X8_join_0 ly (cpI_u (by omega) (isHeap_c ly hM h1) ⟨bi32 _, fun z => ⟨_, rfl, qF_refl, Or.inl ⟨by have := bi_0.mp z; omega, rfl⟩⟩, fun z => cpI_u (by omega) (isHeap_c ly hM h2) ⟨bi32 _, fun z2 => ⟨_, rfl, qF_refl, Or.inl ⟨by have := bi_0.mp z2; omega, rfl⟩⟩, fun z2 => ⟨h3, cpI_u (by omega) (in_c (i32_64 h3) ⟨by omega, by omega⟩ ⟨by omega, by omega⟩) ⟨bi32 _, fun z3 => ?_, fun z3 => ⟨_, rfl, qF_refl, Or.inl ⟨by have := bi_0.mp z3; omega, rfl⟩⟩⟩⟩⟩⟩))
  have a := bi_n0 z
  have b := bi_n0 z2
  have cw := bi_n0 z3
  refine loop1 (f := fun x => [some (4, (M : Int)), some (0, h), some (0, k), some (0, w), some (0, x)]) (fun x V' => 0 ≤ x ∧ x ≤ V M 5 ∧ qF V V' M ∧ ∀ t, 0 ≤ t → t < x → V' (M + 9) (36000 + t) = jU (mHas V M h) (mHas V M k) w t) (fun x _ => (V M 5 - x).toNat) (fun x V' hx ih => ?_) 0 V ⟨by omega, by omega, qF_refl, fun t t0 t1 => by omega⟩
  obtain ⟨x0, x1, q, fr⟩ := hx
  have e5 : V' M 5 = V M 5 := q.1 _ _ (by omega)
  have e12 : V' M 12 = V M 12 := q.1 _ _ (by omega)
  have em : mMul V' M = mMul V M := funext (fun s => funext (fun t => q.1 _ _ (by omega)))
  have m := MI_q q hM
  have rows : ∀ k', 0 ≤ k' → k' < V M 12 → req (V M 5) (mHas V' M k') (mHas V M k') := fun k' a0 a1 t t0 t1 => q.1 _ _ (by omega)
  have vh : V' (M + 9) (120 * h + x) = V (M + 9) (120 * h + x) ∨ ¬ x < V M 5 := by
    by_cases y : x < V M 5
    · exact Or.inl (q.1 _ _ (by omega))
    · exact Or.inr y
  have vk : V' (M + 9) (120 * k + x) = V (M + 9) (120 * k + x) ∨ ¬ x < V M 5 := by
    by_cases y : x < V M 5
    · exact Or.inl (q.1 _ _ (by omega))
    · exact Or.inr y
  have nx : ∀ v, x < V M 5 → v = jU (mHas V M h) (mHas V M k) w x → wpv K_X8_join 3 (fun r V' => ∃ v, r = some (0, v) ∧ (qF V V' M ∧ jnP (V M 5) (V M 12) (mHas V M) h k w v)) 31 [some (4, (M : Int)), some (0, h), some (0, k), some (0, w), some (0, x + 1)] [] G R (wr V' (M + 9) (36000 + x) v) := fun v c ev => ih (x + 1) _ ⟨by omega, by omega, qF_wr q (by omega) (by omega) (by omega) (by omega), fun t t0 t1 => by
    by_cases y : t = x
    · rw [y, wr_same, ev]
    · rw [wr_i (by omega)]; exact fr t t0 (by omega)⟩ (by omega)
  have jz : ∀ v : Int, (w = 0 → (mHas V M h x = 1 ∧ mHas V M k x = 1 → v = 1) ∧ (¬ (mHas V M h x = 1 ∧ mHas V M k x = 1) → v = 0)) → (¬ w = 0 → (mHas V M h x = 1 ∨ mHas V M k x = 1 → v = 1) ∧ (¬ (mHas V M h x = 1 ∨ mHas V M k x = 1) → v = 0)) → v = jU (mHas V M h) (mHas V M k) w x := by
    intro v c1 c2
    unfold jU
    by_cases y : w = 0
    · rw [if_pos y]
      by_cases y2 : mHas V M h x = 1 ∧ mHas V M k x = 1
      · rw [if_pos y2]; exact (c1 y).1 y2
      · rw [if_neg y2]; exact (c1 y).2 y2
    · rw [if_neg y]
      by_cases y2 : mHas V M h x = 1 ∨ mHas V M k x = 1
      · rw [if_pos y2]; exact (c2 y).1 y2
      · rw [if_neg y2]; exact (c2 y).2 y2
  have eU : ¬ x < V M 5 → req (V M 5) (mHas V' M 300) (jU (mHas V M h) (mHas V M k) w) := fun c t t0 t1 => by
    rw [h300]; exact fr t t0 (by omega)
  have hA : mHas V M h x = V (M + 9) (120 * h + x) := rfl
  have hB : mHas V M k x = V (M + 9) (120 * k + x) := rfl
  refine t_X8_join_31 ly (fun _ => ⟨by omega, fun c => ⟨h3, fun w1 => cwI_u (by omega) (least_e ly m) (fun v V'' hv => ⟨v, rfl, by rw [hv.1]; exact q, Or.inr ⟨by omega, Or.inr ⟨by omega, ?_⟩⟩⟩), fun w0 => cwI_u (by omega) (exact_e ly m ?_) (fun v V'' hv => ⟨v, rfl, qF_trans q hv.1, Or.inr ⟨by omega, Or.inl ⟨w0, ?_⟩⟩⟩)⟩, fun c => ⟨by omega, h3, fun w1 => ⟨by omega, by omega, by omega, fun b1 => ⟨fun y => ⟨by omega, by omega, nx _ (by omega) (jz _ (fun q => absurd q w1) (fun _ => ⟨fun _ => rfl, fun q => ?_⟩))⟩, fun y => ⟨by omega, by omega, by omega, fun b2 => ⟨fun y2 => ⟨by omega, by omega, nx _ (by omega) (jz _ (fun q => absurd q w1) (fun _ => ⟨fun q => ?_, fun _ => rfl⟩))⟩, fun y2 => ⟨by omega, by omega, nx _ (by omega) (jz _ (fun q => absurd q w1) (fun _ => ⟨fun _ => rfl, fun q => ?_⟩))⟩⟩⟩⟩⟩, fun w0 => ⟨by omega, by omega, by omega, fun b1 => ⟨fun y => ⟨by omega, by omega, nx _ (by omega) (jz _ (fun _ => ⟨fun q => ?_, fun _ => rfl⟩) (fun q => absurd w0 q))⟩, fun y => ⟨by omega, by omega, by omega, fun b2 => ⟨fun y2 => ⟨by omega, by omega, nx _ (by omega) (jz _ (fun _ => ⟨fun q => ?_, fun _ => rfl⟩) (fun q => absurd w0 q))⟩, fun y2 => ⟨by omega, by omega, nx _ (by omega) (jz _ (fun _ => ⟨fun _ => rfl, fun q => ?_⟩) (fun q => absurd w0 q))⟩⟩⟩⟩⟩⟩⟩)
  · have r := hv.2
    rw [e5, e12] at r
    exact loP_c rows (eU (by omega)) r
  · rw [e5, em]
    have c' := eU (by omega)
    rw [w0] at c'
    exact SM_rq (by omega) gt.2.1 (rqs c') (SM_and (hM.2.1.2.1.2.1.2.2.1 h (by omega) (by omega)).1 (hM.2.1.2.1.2.1.2.2.1 k (by omega) (by omega)).1)
  · have r := hv.2
    rw [e5, e12] at r
    exact inP_c rows (eU (by omega)) r
  · exact absurd (Or.inl (by omega)) q
  · rcases q with q | q <;> omega
  · exact absurd (Or.inr (by omega)) q
  · have := q.1; omega
  · have := q.2; omega
  · exact absurd ⟨by omega, by omega⟩ q
end
