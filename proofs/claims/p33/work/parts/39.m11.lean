/-! leading closed sets -/
noncomputable def cj (N : Int) (mul : Int → Int → Int) (inv : Int → Int) (S : Int → Int) (g : Int) : Int → Int := imf S (fun t => mul (mul (inv g) t) g) N.toNat
theorem imf_s (a φ : Int → Int) {t : Int} (t0 : 0 ≤ t) : imf a φ (t + 1).toNat = if a t = 1 then up1 (imf a φ t.toNat) (φ t) 1 else imf a φ t.toNat := by
  rw [show (t + 1).toNat = t.toNat + 1 by omega]
  show (if a (t.toNat : Int) = 1 then up1 (imf a φ t.toNat) (φ (t.toNat : Int)) 1 else imf a φ t.toNat) = _
  rw [Int.toNat_of_nonneg t0]
theorem cj_r {N : Int} {mul : Int → Int → Int} {inv : Int → Int} (gt : GT N mul inv) {g t : Int} (g0 : 0 ≤ g ∧ g < N) (t0 : 0 ≤ t ∧ t < N) : 0 ≤ mul (mul (inv g) t) g ∧ mul (mul (inv g) t) g < N := by
  have i := gt.2.2.2.2 g g0.1 g0.2
  have a := gt.2.1 _ _ i.1 i.2.1 t0.1 t0.2
  exact gt.2.1 _ _ a.1 a.2 g0.1 g0.2
theorem cj_SM {N : Int} {mul : Int → Int → Int} {inv : Int → Int} (gt : GT N mul inv) {S : Int → Int} (hS : SM N mul S) {g : Int} (g0 : 0 ≤ g ∧ g < N) : SM N mul (cj N mul inv S g) ∧ sm (cj N mul inv S g) N.toNat = sm S N.toNat := by
  have en : ((N.toNat : Nat) : Int) = N := Int.toNat_of_nonneg (by have := gt.1; omega)
  have N1 := gt.1
  have i := gt.2.2.2.2 g g0.1 g0.2
  have sp := imf_spec S (fun t => mul (mul (inv g) t) g) N.toNat
  refine ⟨⟨fun t _ _ => (sp t).1, ?_, fun s t a0 a1 b0 b1 h1 h2 => ?_⟩, ?_⟩
  · refine ((sp 0).2).mpr ⟨0, by omega, by omega, hS.2.1, ?_⟩
    rw [(gt.2.2.1 _ i.1 i.2.1).2]
    exact i.2.2.2
  · obtain ⟨u, u0, u1, u2, u3⟩ := ((sp s).2).mp h1
    obtain ⟨v, v0, v1, v2, v3⟩ := ((sp t).2).mp h2
    rw [en] at u1 v1
    have uv := gt.2.1 u v u0 u1 v0 v1
    refine ((sp (mul s t)).2).mpr ⟨mul u v, uv.1, by omega, hS.2.2 u v u0 u1 v0 v1 u2 v2, ?_⟩
    rw [← u3, ← v3]
    have as_ := gt.2.2.2.1
    have iu := gt.2.1 _ _ i.1 i.2.1 u0 u1
    have iv := gt.2.1 _ _ i.1 i.2.1 v0 v1
    have ivg := gt.2.1 _ _ iv.1 iv.2 g0.1 g0.2
    have vg := gt.2.1 _ _ v0 v1 g0.1 g0.2
    rw [as_ (mul (inv g) u) g (mul (mul (inv g) v) g) iu.1 iu.2 g0.1 g0.2 ivg.1 ivg.2, as_ (inv g) v g i.1 i.2.1 v0 v1 g0.1 g0.2, ← as_ g (inv g) (mul v g) g0.1 g0.2 i.1 i.2.1 vg.1 vg.2, i.2.2.1, (gt.2.2.1 _ vg.1 vg.2).1, as_ (inv g) u (mul v g) i.1 i.2.1 u0 u1 vg.1 vg.2, ← as_ u v g u0 u1 v0 v1 g0.1 g0.2, as_ (inv g) (mul u v) g i.1 i.2.1 uv.1 uv.2 g0.1 g0.2]
  · refine imf_sm (n := N.toNat) N.toNat (fun t a b => hS.1 t a (by omega)) (fun t a b _ => ?_) (fun s t a b c d _ _ e => ?_)
    · have := cj_r gt g0 (t := t) ⟨a, by omega⟩
      exact ⟨this.1, by omega⟩
    · have h1 := gt.2.1 _ _ i.1 i.2.1 a (show s < N by omega)
      have h2 := gt.2.1 _ _ i.1 i.2.1 c (show t < N by omega)
      exact GT_cl gt ⟨i.1, i.2.1⟩ ⟨a, by omega⟩ ⟨c, by omega⟩ (GT_cr gt g0 h1 h2 e)
/-- led by one of its own, a closed set stays -/
theorem cj_own {N : Int} {mul : Int → Int → Int} {inv : Int → Int} (gt : GT N mul inv) {S : Int → Int} (hS : SM N mul S) {g : Int} (g0 : 0 ≤ g ∧ g < N) (hg : S g = 1) : sub1 N (cj N mul inv S g) S := by
  intro t t0 t1 h
  have en : ((N.toNat : Nat) : Int) = N := Int.toNat_of_nonneg (by have := gt.1; omega)
  obtain ⟨u, u0, u1, u2, u3⟩ := ((imf_spec S (fun t => mul (mul (inv g) t) g) N.toNat t).2).mp h
  rw [en] at u1
  have i := gt.2.2.2.2 g g0.1 g0.2
  have a := gt.2.1 _ _ i.1 i.2.1 u0 u1
  rw [← u3]
  exact hS.2.2 _ _ a.1 a.2 g0.1 g0.2 (hS.2.2 _ _ i.1 i.2.1 u0 u1 (SM_inv gt hS g0 hg) u2) hg
/-! sets that are led to each other -/
theorem cj_in {N : Int} {mul : Int → Int → Int} {inv : Int → Int} (gt : GT N mul inv) {S : Int → Int} {g t : Int} : cj N mul inv S g t = 1 ↔ ∃ u, 0 ≤ u ∧ u < N ∧ S u = 1 ∧ mul (mul (inv g) u) g = t := by
  have en : ((N.toNat : Nat) : Int) = N := Int.toNat_of_nonneg (by have := gt.1; omega)
  have := (imf_spec S (fun t => mul (mul (inv g) t) g) N.toNat t).2
  rw [en] at this
  exact this
theorem bit_req {N : Int} {S T : Int → Int} (hS : ∀ t, 0 ≤ t → t < N → S t = 0 ∨ S t = 1) (hT : ∀ t, 0 ≤ t → t < N → T t = 0 ∨ T t = 1) (h : ∀ t, 0 ≤ t → t < N → (S t = 1 ↔ T t = 1)) : req N S T := by
  intro t t0 t1
  have := h t t0 t1
  rcases hS t t0 t1 with a | a <;> rcases hT t t0 t1 with b | b
  · omega
  · have := this.mpr b; omega
  · have := this.mp a; omega
  · omega
def CJ (N : Int) (mul : Int → Int → Int) (inv : Int → Int) (S T : Int → Int) : Prop := ∃ g, 0 ≤ g ∧ g < N ∧ req N T (cj N mul inv S g)
theorem cj_congr {N : Int} {mul : Int → Int → Int} {inv : Int → Int} (gt : GT N mul inv) {S S' : Int → Int} (hS : ∀ t, 0 ≤ t → t < N → S t = 0 ∨ S t = 1) (e : req N S S') (g : Int) : req N (cj N mul inv S g) (cj N mul inv S' g) := by
  have en : ((N.toNat : Nat) : Int) = N := Int.toNat_of_nonneg (by have := gt.1; omega)
  refine bit_req (fun t _ _ => (imf_spec _ _ _ t).1) (fun t _ _ => (imf_spec _ _ _ t).1) (fun t t0 t1 => ?_)
  rw [cj_in gt, cj_in gt]
  constructor
  · rintro ⟨u, u0, u1, u2, u3⟩
    exact ⟨u, u0, u1, by rw [← e u u0 u1]; exact u2, u3⟩
  · rintro ⟨u, u0, u1, u2, u3⟩
    exact ⟨u, u0, u1, by rw [e u u0 u1]; exact u2, u3⟩
theorem inv_mul {N : Int} {mul : Int → Int → Int} {inv : Int → Int} (gt : GT N mul inv) {a b : Int} (a0 : 0 ≤ a ∧ a < N) (b0 : 0 ≤ b ∧ b < N) : inv (mul a b) = mul (inv b) (inv a) := by
  have ab := gt.2.1 a b a0.1 a0.2 b0.1 b0.2
  have ia := gt.2.2.2.2 a a0.1 a0.2
  have ib := gt.2.2.2.2 b b0.1 b0.2
  have iab := gt.2.2.2.2 _ ab.1 ab.2
  have r := gt.2.1 _ _ ib.1 ib.2.1 ia.1 ia.2.1
  refine GT_cl gt ab ⟨iab.1, iab.2.1⟩ r ?_
  have asc := gt.2.2.2.1
  have bi := gt.2.1 b (mul (inv b) (inv a)) b0.1 b0.2 r.1 r.2
  rw [iab.2.2.1, asc a b _ a0.1 a0.2 b0.1 b0.2 r.1 r.2, ← asc b (inv b) (inv a) b0.1 b0.2 ib.1 ib.2.1 ia.1 ia.2.1, ib.2.2.1, (gt.2.2.1 _ ia.1 ia.2.1).1, ia.2.2.1]
theorem cj_cj {N : Int} {mul : Int → Int → Int} {inv : Int → Int} (gt : GT N mul inv) {S : Int → Int} {a b : Int} (a0 : 0 ≤ a ∧ a < N) (b0 : 0 ≤ b ∧ b < N) : req N (cj N mul inv (cj N mul inv S a) b) (cj N mul inv S (mul a b)) := by
  have ia := gt.2.2.2.2 a a0.1 a0.2
  have ib := gt.2.2.2.2 b b0.1 b0.2
  have asc := gt.2.2.2.1
  have mr := gt.2.1
  have key : ∀ u, 0 ≤ u → u < N → mul (mul (inv b) (mul (mul (inv a) u) a)) b = mul (mul (inv (mul a b)) u) (mul a b) := by
    intro u u0 u1
    have iau := mr _ _ ia.1 ia.2.1 u0 u1
    have iaua := mr _ _ iau.1 iau.2 a0.1 a0.2
    have iba := mr _ _ ib.1 ib.2.1 ia.1 ia.2.1
    have ibu := mr _ _ ib.1 ib.2.1 iau.1 iau.2
    rw [inv_mul gt a0 b0, asc (inv b) (inv a) u ib.1 ib.2.1 ia.1 ia.2.1 u0 u1, ← asc (inv b) (mul (inv a) u) a ib.1 ib.2.1 iau.1 iau.2 a0.1 a0.2, asc (mul (inv b) (mul (inv a) u)) a b ibu.1 ibu.2 a0.1 a0.2 b0.1 b0.2]
  refine bit_req (fun t _ _ => (imf_spec _ _ _ t).1) (fun t _ _ => (imf_spec _ _ _ t).1) (fun t t0 t1 => ?_)
  rw [cj_in gt, cj_in gt]
  constructor
  · rintro ⟨v, v0, v1, v2, v3⟩
    obtain ⟨u, u0, u1, u2, u3⟩ := (cj_in gt).mp v2
    exact ⟨u, u0, u1, u2, by rw [← key u u0 u1, u3, v3]⟩
  · rintro ⟨u, u0, u1, u2, u3⟩
    have r := cj_r gt a0 ⟨u0, u1⟩
    exact ⟨_, r.1, r.2, (cj_in gt).mpr ⟨u, u0, u1, u2, rfl⟩, by rw [key u u0 u1, u3]⟩
theorem inv_0 {N : Int} {mul : Int → Int → Int} {inv : Int → Int} (gt : GT N mul inv) : inv 0 = 0 := by
  have N1 := gt.1
  have i := gt.2.2.2.2 0 (by omega) (by omega)
  have := (gt.2.2.1 (inv 0) i.1 i.2.1).1
  rw [← this]; exact i.2.2.1
theorem cj_0 {N : Int} {mul : Int → Int → Int} {inv : Int → Int} (gt : GT N mul inv) {S : Int → Int} (hS : ∀ t, 0 ≤ t → t < N → S t = 0 ∨ S t = 1) : req N (cj N mul inv S 0) S := by
  refine bit_req (fun t _ _ => (imf_spec _ _ _ t).1) hS (fun t t0 t1 => ?_)
  rw [cj_in gt]
  have e : ∀ u, 0 ≤ u → u < N → mul (mul (inv 0) u) 0 = u := fun u u0 u1 => by rw [inv_0 gt, (gt.2.2.1 u u0 u1).1, (gt.2.2.1 u u0 u1).2]
  constructor
  · rintro ⟨u, u0, u1, u2, u3⟩
    rw [e u u0 u1] at u3
    rw [← u3]; exact u2
  · intro h
    exact ⟨t, t0, t1, h, e t t0 t1⟩
theorem CJ_refl {N : Int} {mul : Int → Int → Int} {inv : Int → Int} (gt : GT N mul inv) {S : Int → Int} (hS : SM N mul S) : CJ N mul inv S S := ⟨0, by omega, by have := gt.1; omega, fun t t0 t1 => (cj_0 gt hS.1 t t0 t1).symm⟩
theorem CJ_symm {N : Int} {mul : Int → Int → Int} {inv : Int → Int} (gt : GT N mul inv) {S T : Int → Int} (hS : SM N mul S) (hT : SM N mul T) (h : CJ N mul inv S T) : CJ N mul inv T S := by
  obtain ⟨g, g0, g1, e⟩ := h
  have i := gt.2.2.2.2 g g0 g1
  refine ⟨inv g, i.1, i.2.1, fun t t0 t1 => ?_⟩
  rw [cj_congr gt hT.1 e (inv g) t t0 t1, cj_cj gt ⟨g0, g1⟩ ⟨i.1, i.2.1⟩ t t0 t1, i.2.2.1, cj_0 gt hS.1 t t0 t1]
theorem CJ_trans {N : Int} {mul : Int → Int → Int} {inv : Int → Int} (gt : GT N mul inv) {S T U : Int → Int} (hT : SM N mul T) (h1 : CJ N mul inv S T) (h2 : CJ N mul inv T U) : CJ N mul inv S U := by
  obtain ⟨a, a0, a1, e1⟩ := h1
  obtain ⟨b, b0, b1, e2⟩ := h2
  have ab := gt.2.1 a b a0 a1 b0 b1
  refine ⟨mul a b, ab.1, ab.2, fun t t0 t1 => ?_⟩
  rw [e2 t t0 t1, cj_congr gt hT.1 e1 b t t0 t1, cj_cj gt ⟨a0, a1⟩ ⟨b0, b1⟩ t t0 t1]
/-- how many classes of closed sets there are -/
def isCls (N : Int) (mul : Int → Int → Int) (inv : Int → Int) (c : Int) : Prop := ∃ F : Int → Int → Int, (∀ i, 0 ≤ i → i < c → SM N mul (F i)) ∧ (∀ i j, 0 ≤ i → i < c → 0 ≤ j → j < c → CJ N mul inv (F i) (F j) → i = j) ∧ (∀ T, SM N mul T → ∃ i, 0 ≤ i ∧ i < c ∧ CJ N mul inv (F i) T)
theorem isCls_le {N : Int} {mul : Int → Int → Int} {inv : Int → Int} (gt : GT N mul inv) {c c' : Int} (h : isCls N mul inv c) (h' : isCls N mul inv c') (c0 : 0 ≤ c) (c0' : 0 ≤ c') : c ≤ c' := by
  obtain ⟨F, f1, f2, f3⟩ := h
  obtain ⟨F', f1', f2', f3'⟩ := h'
  apply Classical.byContradiction
  intro z
  have hx : ∀ i, ∃ k, (0 ≤ i → i < c → 0 ≤ k ∧ k < c' ∧ CJ N mul inv (F' k) (F i)) := by
    intro i
    by_cases q : 0 ≤ i ∧ i < c
    · obtain ⟨k, k0, k1, k2⟩ := f3' (F i) (f1 i q.1 q.2)
      exact ⟨k, fun _ _ => ⟨k0, k1, k2⟩⟩
    · exact ⟨0, fun a b => absurd ⟨a, b⟩ q⟩
  let φ : Int → Int := fun i => Classical.choose (hx i)
  have hφ : ∀ i, 0 ≤ i → i < c → 0 ≤ φ i ∧ φ i < c' ∧ CJ N mul inv (F' (φ i)) (F i) := fun i a b => Classical.choose_spec (hx i) a b
  have inj : ∀ i j : Int, 0 ≤ i → i < c → 0 ≤ j → j < c → φ i = φ j → i = j := by
    intro i j i0 i1 j0 j1 e
    have a := (hφ i i0 i1)
    have b := (hφ j j0 j1)
    rw [← e] at b
    have s := f1' _ a.1 a.2.1
    exact f2 i j i0 i1 j0 j1 (CJ_trans gt s (CJ_symm gt s (f1 i i0 i1) a.2.2) b.2.2)
  obtain ⟨i, i0, i1, e⟩ := pig (φ := φ) c0 (fun i i0 i1 => ⟨(hφ i i0 i1).1, by have := (hφ i i0 i1).2.1; omega⟩) inj (y := c') c0' (by omega)
  have := (hφ i i0 i1).2.1
  omega
section
variable {d : Nat} {G : List gS} {R V : gV} {M : Nat}
theorem lies_c (ly : lay8 G R M) {h k : Int} (hN : 0 ≤ V M 5 ∧ V M 5 ≤ 120) (h0 : 0 ≤ h ∧ h ≤ 300) (k0 : 0 ≤ k ∧ k ≤ 300) : cpI 1 (bi (sub1 (V M 5) (mHas V M h) (mHas V M k))) 176 [(4, (M : Int)), (0, h), (0, k)] G R V := by
  refine c_X8_lies (t_X8_lies_0 ly ?_)
  refine pool1 (f := fun x => [some (4, (M : Int)), some (0, h), some (0, k), some (0, x)]) (fun x => 0 ≤ x ∧ x ≤ V M 5 ∧ ∀ t, 0 ≤ t → t < x → V (M + 9) (120 * h + t) = 1 → V (M + 9) (120 * k + t) = 1) (fun x => (V M 5 - x).toNat) (fun x hx ih => ?_) 0 ⟨by omega, by omega, fun t t0 t1 => by omega⟩
  obtain ⟨x0, x1, hx⟩ := hx
  refine t_X8_lies_2 ly (fun _ => ⟨by omega, fun c => ⟨?_, rfl⟩, fun c => ⟨by omega, by omega, by omega, fun b1 => ⟨fun z => ⟨by omega, ih (x + 1) ⟨by omega, by omega, fun t t0 t1 t2 => ?_⟩ (by omega)⟩, fun z => ⟨by omega, by omega, by omega, fun b2 => ⟨fun z2 => ⟨by omega, ih (x + 1) ⟨by omega, by omega, fun t t0 t1 t2 => ?_⟩ (by omega)⟩, fun z2 => ⟨?_, rfl⟩⟩⟩⟩⟩⟩)
  · rw [bi_t]
    intro t t0 t1
    exact hx t t0 (by omega)
  · by_cases q : t = x
    · rw [q] at t2; omega
    · exact hx t t0 (by omega) t2
  · by_cases q : t = x
    · rw [q]; omega
    · exact hx t t0 (by omega) t2
  · rw [bi_f]
    intro w
    have w2 := w x x0 c (show V (M + 9) (120 * h + x) = 1 by omega)
    have w3 : V (M + 9) (120 * k + x) = 1 := w2
    omega
theorem isAhead_e (ly : lay8 G R M) {h k : Int} (hN : 0 ≤ V M 5 ∧ V M 5 ≤ 120) (h0 : 0 ≤ h ∧ h ≤ 300) (k0 : 0 ≤ k ∧ k ≤ 300) (sh : V (M + 10) h = sm (mHas V M h) (V M 5).toNat) (sk : V (M + 10) k = sm (mHas V M k) (V M 5).toNat) : cpI 1 (bi (ahd (V M 5) (mHas V M h) (mHas V M k))) 174 [(4, (M : Int)), (0, h), (0, k)] G R V := by
  refine c_X8_isAhead (t_X8_isAhead_0 ly ⟨by omega, fun _ => ⟨by omega, fun _ => ⟨fun e => ?_, fun e => ⟨fun q => ⟨?_, rfl⟩, fun q => ⟨?_, rfl⟩⟩⟩⟩⟩)
  · refine pool1 (f := fun x => [some (4, (M : Int)), some (0, h), some (0, k), some (0, x)]) (fun x => 0 ≤ x ∧ x ≤ V M 5 ∧ ∀ u, 0 ≤ u → u < x → mHas V M h u = mHas V M k u) (fun x => (V M 5 - x).toNat) (fun x hx ih => ?_) 0 ⟨by omega, by omega, fun u u0 u1 => by omega⟩
    obtain ⟨x0, x1, x2⟩ := hx
    refine t_X8_isAhead_38 ly (fun _ => ⟨by omega, fun c => ⟨?_, rfl⟩, fun c => ⟨by omega, by omega, by omega, fun b1 => ⟨by omega, by omega, by omega, fun b2 => ⟨fun z => ⟨by omega, ih (x + 1) ⟨by omega, by omega, fun u u0 u1 => ?_⟩ (by omega)⟩, fun z => ⟨?_, rfl⟩⟩⟩⟩⟩)
    · rw [bi_f (ah_irr (fun t t0 t1 => x2 t t0 (by omega)))]
    · by_cases y : u = x
      · rw [y]; exact z
      · exact x2 u u0 (by omega)
    · rcases b1 with w | w
      · rw [w, bi_f]
        rintro (q | ⟨_, t, t0, t1, q1, q2, q3⟩)
        · omega
        · have w1 : mHas V M h x = 0 := w
          have w2 : mHas V M h x ≠ mHas V M k x := z
          rcases Int.lt_trichotomy t x with y | y | y
          · have := x2 t t0 y; omega
          · rw [y] at q1; omega
          · exact w2 (q3 x x0 y)
      · rw [w, bi_t]
        have w2 : mHas V M k x = 0 := by
          rcases b2 with y | y
          · exact y
          · omega
        exact Or.inr ⟨by omega, x, x0, c, w, w2, x2⟩
  · rw [bi_f]
    rintro (w | ⟨w, _⟩)
    · omega
    · omega
  · rw [bi_t]
    exact Or.inl (by omega)
theorem isAhead_c (ly : lay8 G R M) {h k : Int} (hN : 0 ≤ V M 5 ∧ V M 5 ≤ 120) (h0 : 0 ≤ h ∧ h ≤ 300) (k0 : 0 ≤ k ∧ k ≤ 300) : cwv 1 (fun r V' => ∃ v, r = some (0, v) ∧ (V' = V ∧ (v = 0 ∨ v = 1))) 174 [(4, (M : Int)), (0, h), (0, k)] G R V := by
  refine c_X8_isAhead (t_X8_isAhead_0 ly ⟨by omega, fun _ => ⟨by omega, fun _ => ⟨fun e => ?_, fun e => ⟨fun _ => ⟨0, rfl, rfl, by omega⟩, fun _ => ⟨1, rfl, rfl, by omega⟩⟩⟩⟩⟩)
  refine pool1 (f := fun x => [some (4, (M : Int)), some (0, h), some (0, k), some (0, x)]) (fun x => 0 ≤ x ∧ x ≤ V M 5) (fun x => (V M 5 - x).toNat) (fun x hx ih => ?_) 0 ⟨by omega, by omega⟩
  obtain ⟨x0, x1⟩ := hx
  exact t_X8_isAhead_38 ly (fun _ => ⟨by omega, fun c => ⟨0, rfl, rfl, by omega⟩, fun c => ⟨by omega, by omega, by omega, fun b1 => ⟨by omega, by omega, by omega, fun b2 => ⟨fun z => ⟨by omega, ih (x + 1) ⟨by omega, by omega⟩ (by omega)⟩, fun z => ⟨_, rfl, rfl, b1⟩⟩⟩⟩⟩)
def chP (V V' : gV) (M : Nat) (h k : Int) : Prop := (∀ a i, ¬ (a = M + 9 ∧ ((120 * h ≤ i ∧ i < 120 * h + V M 5) ∨ (120 * k ≤ i ∧ i < 120 * k + V M 5))) → ¬ (a = M + 10 ∧ (i = h ∨ i = k)) → V' a i = V a i) ∧ (∀ t, 0 ≤ t → t < V M 5 → V' (M + 9) (120 * h + t) = V (M + 9) (120 * k + t) ∧ V' (M + 9) (120 * k + t) = V (M + 9) (120 * h + t)) ∧ V' (M + 10) h = V (M + 10) k ∧ V' (M + 10) k = V (M + 10) h
theorem changes_c (ly : lay8 G R M) {h k : Int} (hN : 0 ≤ V M 5 ∧ V M 5 ≤ 120) (h0 : 0 ≤ h ∧ h ≤ 300) (k0 : 0 ≤ k ∧ k ≤ 300) (hk : h ≠ k) : cwv 1 (fun r V' => r = none ∧ chP V V' M h k) 175 [(4, (M : Int)), (0, h), (0, k)] G R V := by
  refine c_X8_changes (t_X8_changes_0 ly ?_)
  generalize hV0 : V = V0 at hN ⊢
  refine loop1 (f := fun x => [some (4, (M : Int)), some (0, h), some (0, k), some (0, x)]) (fun x V => 0 ≤ x ∧ x ≤ V0 M 5 ∧ (∀ a i, ¬ (a = M + 9 ∧ ((120 * h ≤ i ∧ i < 120 * h + x) ∨ (120 * k ≤ i ∧ i < 120 * k + x))) → V a i = V0 a i) ∧ (∀ t, 0 ≤ t → t < x → V (M + 9) (120 * h + t) = V0 (M + 9) (120 * k + t) ∧ V (M + 9) (120 * k + t) = V0 (M + 9) (120 * h + t))) (fun x _ => (V0 M 5 - x).toNat) (fun x V hx ih => ?_) 0 V0 ⟨by omega, by omega, fun _ _ _ => rfl, fun t t0 t1 => by omega⟩
  obtain ⟨x0, x1, fr, sw⟩ := hx
  have e5 : V M 5 = V0 M 5 := fr _ _ (by omega)
  have ez : ∀ i, V (M + 10) i = V0 (M + 10) i := fun i => fr _ _ (by omega)
  refine t_X8_changes_2 ly (fun _ => ⟨by omega, fun c => ⟨by omega, fun _ => ⟨by omega, fun _ => ⟨rfl, fun a i b1 b2 => ?_, fun t t0 t1 => ?_, ?_, ?_⟩⟩⟩, fun c => ⟨by omega, by omega, by omega, fun b1 => ⟨by omega, by omega, by omega, fun b2 => ⟨by omega, ih (x + 1) _ ⟨by omega, by omega, fun a i b => ?_, fun t t0 t1 => ?_⟩ (by omega)⟩⟩⟩⟩)
  · rw [wr_ne (by omega), wr_ne (by omega)]
    exact fr a i (by omega)
  · rw [wr_a (by omega), wr_a (by omega), wr_a (by omega), wr_a (by omega)]
    exact sw t t0 (by omega)
  · rw [wr_i hk, wr_same]; exact ez k
  · rw [wr_same]; exact ez h
  · rw [wr_ne (by omega), wr_ne (by omega)]
    exact fr a i (by omega)
  · have f1 : V (M + 9) (120 * h + x) = V0 (M + 9) (120 * h + x) := fr _ _ (by omega)
    have f2 : V (M + 9) (120 * k + x) = V0 (M + 9) (120 * k + x) := fr _ _ (by omega)
    by_cases q : t = x
    · rw [q, wr_same, wr_i (by omega), wr_same]
      exact ⟨f2, f1⟩
    · rw [wr_i (by omega), wr_i (by omega), wr_i (by omega), wr_i (by omega)]
      exact sw t t0 (by omega)
/-- nothing but the free row of has and the free size -/
def frF (V V' : gV) (M : Nat) : Prop := ∀ a i, ¬ (a = M + 9 ∧ 36000 ≤ i) → ¬ (a = M + 10 ∧ i = 300) → V' a i = V a i
theorem ledTo_c (ly : lay8 G R M) (gt : GT (V M 5) (mMul V M) (mInv V M)) (hN : V M 5 ≤ 120) (hp : hpsP (V M 5) (V M 12) (mMul V M) (mHas V M) (fun k => V (M + 10) k)) {h g : Int} (h0 : 0 ≤ h ∧ h < V M 12) (g0 : 0 ≤ g ∧ g < V M 5) : cwv 3 (fun r V' => ∃ v, r = some (0, v) ∧ (frF V V' M ∧ 0 ≤ v ∧ v < V M 12 ∧ req (V M 5) (mHas V M v) (cj (V M 5) (mMul V M) (mInv V M) (mHas V M h) g))) 178 [(4, (M : Int)), (0, h), (0, g)] G R V := by
  have N1 := gt.1
  have H1 := hp.1
  have H3 := hp.2.1
  refine c_X8_ledTo (t_X8_ledTo_0 ly ?_)
  generalize hV0 : V = V0 at gt hN hp h0 g0 N1 H1 H3 ⊢
  refine loop1 (f := fun x => [some (4, (M : Int)), some (0, h), some (0, g), some (0, x)]) (fun x V => 0 ≤ x ∧ x ≤ V0 M 5 ∧ frF V0 V M ∧ ∀ t, 0 ≤ t → t < x → V (M + 9) (36000 + t) = 0) (fun x _ => (V0 M 5 - x).toNat) (fun x V hx ih => ?_) 0 V0 ⟨by omega, by omega, fun _ _ _ _ => rfl, fun t t0 t1 => by omega⟩
  obtain ⟨x0, x1, fr, zr⟩ := hx
  have e5 : V M 5 = V0 M 5 := fr _ _ (by omega) (by omega)
  refine t_X8_ledTo_2 ly (fun _ => ⟨by omega, fun c => ?_, fun c => ⟨by omega, by omega, by omega, ih (x + 1) _ ⟨by omega, by omega, fun a i b1 b2 => ?_, fun t t0 t1 => ?_⟩ (by omega)⟩⟩)
  · refine loop1 (f := fun x => [some (4, (M : Int)), some (0, h), some (0, g), some (0, x)]) (fun t V => 0 ≤ t ∧ t ≤ V0 M 5 ∧ frF V0 V M ∧ ∀ u, 0 ≤ u → u < V0 M 5 → V (M + 9) (36000 + u) = imf (mHas V0 M h) (fun t => mMul V0 M (mMul V0 M (mInv V0 M g) t) g) t.toNat u) (fun t _ => (V0 M 5 - t).toNat) (fun t V hx ih2 => ?_) 0 V ⟨by omega, by omega, fr, fun u u0 u1 => zr u u0 (by omega)⟩
    clear fr zr e5 c
    obtain ⟨t0, t1, fr, im⟩ := hx
    have e5 : V M 5 = V0 M 5 := fr _ _ (by omega) (by omega)
    have e12 : V M 12 = V0 M 12 := fr _ _ (by omega) (by omega)
    have em : ∀ i, V (M + 5) i = V0 (M + 5) i := fun i => fr _ _ (by omega) (by omega)
    have ei : ∀ i, V (M + 6) i = V0 (M + 6) i := fun i => fr _ _ (by omega) (by omega)
    have eh : V (M + 9) (120 * h + t) = V0 (M + 9) (120 * h + t) ∨ ¬ t < V0 M 5 := by
      by_cases q : t < V0 M 5
      · left; exact fr _ _ (by omega) (by omega)
      · right; exact q
    have st := imf_s (mHas V0 M h) (fun t => mMul V0 M (mMul V0 M (mInv V0 M g) t) g) t0
    refine t_X8_ledTo_28 ly ?_
    simp only [em, ei]
    refine fun _ => ⟨by omega, fun c => ⟨by omega, fun _ => ?_⟩, fun c => ⟨by omega, by omega, by omega, fun bt => ⟨fun z => ⟨by omega, ih2 (t + 1) V ⟨by omega, by omega, fr, fun u u0 u1 => ?_⟩ (by omega)⟩, fun z => ?_⟩⟩⟩
    · have tN : t = V0 M 5 := by omega
      have w : ∀ a i, ¬ (a = M + 10 ∧ i = 300) → wr V (M + 10) 300 (V (M + 10) h) a i = V a i := fun a i b => wr_ne b
      have f1 : frF V0 (wr V (M + 10) 300 (V (M + 10) h)) M := fun a i b1 b2 => by rw [w a i b2]; exact fr a i b1 b2
      have w5 : wr V (M + 10) 300 (V (M + 10) h) M 5 = V0 M 5 := f1 _ _ (by omega) (by omega)
      generalize hV1 : wr V (M + 10) 300 (V (M + 10) h) = V1 at *
      have z3 : V1 (M + 10) 300 = V0 (M + 10) h := by rw [← hV1, wr_same]; exact fr _ _ (by omega) (by omega)
      rw [e12]
      refine fun _ => cwI_u (Nat.le_refl _) (among_c (V := V1) ly (h := 300) (n := V0 M 12) (by omega) (by omega) (by omega)) (fun v V8 hv => ?_)
      obtain ⟨ev, hv⟩ := hv
      subst ev
      have hS := (hp.2.2.1 h h0.1 h0.2)
      obtain ⟨c1, c2⟩ := cj_SM gt hS.1 g0
      have row : req (V0 M 5) (mHas V8 M 300) (cj (V0 M 5) (mMul V0 M) (mInv V0 M) (mHas V0 M h) g) := by
        intro u u0 u1
        have := im u u0 u1
        rw [tN] at this
        show V8 (M + 9) (120 * 300 + u) = _
        rw [← hV1, wr_a (by omega), show 120 * (300 : Int) + u = 36000 + u by omega]
        exact this
      rcases hv with ⟨v0, v1⟩ | ⟨v0, v1, v2⟩
      · exfalso
        obtain ⟨k, k0, k1, k2⟩ := hp.2.2.2.1 _ c1
        refine v1 k k0 k1 ⟨?_, ?_⟩
        · have a : V8 (M + 10) k = V0 (M + 10) k := f1 _ _ (by omega) (by omega)
          rw [a, z3]
          have b := (hp.2.2.1 k k0 k1).2
          have b2 := hS.2
          dsimp only at b b2
          rw [b, b2, ← c2]
          have en : (((V0 M 5).toNat : Nat) : Int) = V0 M 5 := Int.toNat_of_nonneg (by omega)
          exact sm_congr (fun u u0 u1 => k2 u u0 (by omega))
        · rw [w5]
          intro u u0 u1
          rw [row u u0 u1, ← k2 u u0 u1]
          exact f1 _ _ (by omega) (by omega)
      · refine ⟨v, rfl, f1, v0, v1, fun u u0 u1 => ?_⟩
        rw [← row u u0 u1]
        have := v2.2
        rw [w5] at this
        rw [← this u u0 u1]
        exact (f1 _ _ (by omega) (by omega)).symm
    · rw [im u u0 u1, st, if_neg]
      rw [e5] at c
      show ¬ V0 (M + 9) (120 * h + t) = 1
      omega
    · rw [e5] at c
      have iv := gt.2.2.2.2 g g0.1 g0.2
      have p1 := gt.2.1 _ _ iv.1 iv.2.1 t0 c
      have p2 := gt.2.1 _ _ p1.1 p1.2 g0.1 g0.2
      simp only [mMul, mInv] at iv p1 p2
      refine ⟨by omega, fun _ => ⟨by omega, by omega, by omega, fun _ => ⟨by omega, by omega, by omega, fun _ => ⟨by omega, by omega, by omega, ih2 (t + 1) _ ⟨by omega, by omega, fun a i b1 b2 => ?_, fun u u0 u1 => ?_⟩ (by omega)⟩⟩⟩⟩
      · rw [wr_ne (by omega)]; exact fr a i b1 b2
      · rw [st, if_pos (show V0 (M + 9) (120 * h + t) = 1 by omega)]
        unfold up1
        by_cases q : u = mMul V0 M (mMul V0 M (mInv V0 M g) t) g
        · rw [if_pos q, q]; exact wr_same _ _ _ _
        · rw [if_neg q, ← im u u0 u1]
          refine wr_i (fun z => q ?_)
          show u = V0 (M + 5) (120 * V0 (M + 5) (120 * V0 (M + 6) g + t) + g)
          omega
  · rw [wr_ne (by omega)]; exact fr a i b1 b2
  · by_cases q : t = x
    · rw [q, wr_same]
    · rw [wr_i (by omega)]; exact zr t t0 (by omega)
end
