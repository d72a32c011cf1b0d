/-! the finder of heaps, exactly: its small calls -/
abbrev Sff (f : Nat) : Nat → Int → Prop := fun c _ => f ≤ c ∧ c ≤ f + 11
def fc (G : List gS) (R : gV) (T : gT) (f x p n : Nat) (C D : Int) (V0 : gV) : Prop := fT G R T f ∧ tT G R T x p n C D ∧ D ≤ C ∧ f + 11 < x ∧ f + 11 < p ∧ tX V0 x p
def fv (T : gT) (f : Nat) (V0 V : gV) : Prop := TH T V ∧ Fr (Sff f) V0 V
section
variable {G : List gS} {R V : gV}
theorem isPowerOfPrime_e {m : Int} (hm : 1 ≤ m ∧ m ≤ 1000) : cpI 1 (bi (ppf m.toNat = true)) 157 [(0, m)] G R V := by
  obtain ⟨M, eM⟩ := Int.eq_ofNat_of_zero_le (show 0 ≤ m by omega)
  subst eM
  rw [Int.toNat_natCast]
  refine c_X7_isPowerOfPrime (t_X7_isPowerOfPrime_0 ?_)
  refine pool1 (f := fun x => [some (0, (M : Int)), some (0, x)]) (Inv := fun x => ∃ X : Nat, x = (X : Int) ∧ 2 ≤ X ∧ X ≤ M + 1 ∧ ppl M (M + 3 - X) X = ppf M) (μ := fun x => (1002 - x).toNat) (fun x h ih => ?_) 2 ⟨2, rfl, by omega, by omega, by rw [show M + 3 - 2 = M + 1 by omega]; rfl⟩
  obtain ⟨X, ex, X2, X3, hp⟩ := h
  subst ex
  rw [show M + 3 - X = (M + 2 - X) + 1 by omega] at hp
  have hp' : (if M < X then false else if M % X = 0 then Nat.beq (ppd X 120 M) 1 else ppl M (M + 2 - X) (X + 1)) = ppf M := hp
  have mo : ((M : Int) % (X : Int)) = ((M % X : Nat) : Int) := rfl
  have ml := Nat.mod_lt M (show 0 < X by omega)
  refine t_X7_isPowerOfPrime_2 ⟨by omega, by omega, fun z => ⟨?_, rfl⟩, fun z => ⟨by omega, by rw [mo]; omega, fun z1 => ⟨by omega, ih _ ⟨X + 1, by omega, by omega, by omega, ?_⟩ (by omega)⟩, fun z1 => ?_⟩⟩
  · rw [if_pos (by omega)] at hp'
    rw [bi_f (by rw [← hp']; simp)]
  · rw [if_neg (by omega), if_neg (fun q => z1 (by rw [mo, q]; rfl))] at hp'
    rw [show M + 3 - (X + 1) = M + 2 - X by omega]
    exact hp'
  · rw [mo] at z1
    rw [if_neg (by omega), if_pos (by omega)] at hp'
    refine pool2 (f := fun y z => [none, some (0, (X : Int)), some (0, y), some (0, z)]) (Inv := fun y z => ∃ Y Z : Nat, y = (Y : Int) ∧ z = (Z : Int) ∧ Z ≤ 120 ∧ Y ≤ 1000 ∧ ppd X (120 - Z) Y = ppd X 120 M) (μ := fun _ z => (120 - z).toNat) (fun y z h2 ih2 => ?_) M 0 ⟨M, 0, rfl, rfl, by omega, by omega, rfl⟩
    obtain ⟨Y, Z, ey, ez, hZ, hY, hq⟩ := h2
    subst ey ez
    have fn : ppd X 120 M = Y → ¬ (Y : Int) = 1 → bi (ppf M = true) = 0 := fun e q => bi_f (fun w => by rw [← hp', e] at w; have := Nat.eq_of_beq_eq_true w; omega)
    have ft : ppd X 120 M = Y → (Y : Int) = 1 → bi (ppf M = true) = 1 := fun e q => bi_t (by rw [← hp', e, show Y = 1 by omega]; rfl)
    have mo2 : ((Y : Int) % (X : Int)) = ((Y % X : Nat) : Int) := rfl
    have ml2 := Nat.mod_lt Y (show 0 < X by omega)
    have e0 : ¬ (Z : Int) < 120 → ppd X 120 M = Y := fun w => by rw [← hq, show 120 - Z = 0 by omega]; rfl
    have e1 : (Z : Int) < 120 → (if Y % X = 0 then ppd X (119 - Z) (Y / X) else Y) = ppd X 120 M := fun w => by
      rw [show 120 - Z = (119 - Z) + 1 by omega] at hq
      exact hq
    have dl := Nat.div_le_self Y X
    refine t_X7_isPowerOfPrime_17 ⟨by omega, fun w => ⟨by omega, fun w2 => ⟨by rw [fn (e0 w) w2], rfl⟩, fun w2 => ⟨by rw [ft (e0 w) w2], rfl⟩⟩, fun w => ⟨by omega, by omega, by omega, by rw [mo2]; omega, fun w2 => ?_, fun w2 => ⟨by omega, by omega, ih2 _ _ ⟨Y / X, Z + 1, rfl, by omega, by omega, by omega, ?_⟩ (by omega)⟩⟩⟩
    · have e2 := e1 w
      rw [if_neg (fun q => w2 (by rw [mo2, q]; rfl))] at e2
      exact ⟨fun w3 => ⟨by rw [fn e2.symm w3], rfl⟩, fun w3 => ⟨by rw [ft e2.symm w3], rfl⟩⟩
    · have e2 := e1 w
      rw [mo2] at w2
      rw [if_pos (by omega)] at e2
      rw [show 120 - (Z + 1) = 119 - Z by omega]
      exact e2
end
/-- no lesser turn makes the same heap -/
def fst0 (V0 : gV) (x p : Nat) (t : Int) : Prop := ∀ i : Nat, 1 ≤ i → (i : Int) < V0 (x + 3) t → ¬ (pw (pMul V0 x p) t i < t ∧ V0 (x + 3) (pw (pMul V0 x p) t i) = V0 (x + 3) t)
abbrev Sse (f : Nat) : Nat → Int → Prop := fun c i => (c = f ∧ i = 9) ∨ c = f + 8
def seX (V0 V : gV) (f x p : Nat) : Prop := (0 ≤ V f 9 ∧ V f 9 ≤ 120) ∧ (∀ i, 0 ≤ i → i < V f 9 → 1 ≤ V (f + 8) i ∧ V (f + 8) i < V0 x 1) ∧ (∀ t, 1 ≤ t → t < V0 x 1 → ppf (V0 (x + 3) t).toNat = true → fst0 V0 x p t → ∃ i, 0 ≤ i ∧ i < V f 9 ∧ V (f + 8) i = t)
abbrev Sle (f : Nat) : Nat → Int → Prop := fun c _ => c = f + 9
def leX (V0 V : gV) (f x p : Nat) : Prop := ∀ m t, 0 ≤ m → m < V0 x 2 → 0 ≤ t → t < V0 x 1 → V (f + 9) (m * 120 + t) = pMul V0 x p (pMul V0 x p (V0 (x + 2) (V0 (x + 4) (m * 120))) t) (V0 (x + 4) (m * 120))
abbrev Sme (f : Nat) : Nat → Int → Prop := fun c i => (c = f ∧ i = 12) ∨ c = f + 10
abbrev hS (V : gV) (f : Nat) (k : Int) : Int → Int := fun t => bt (V (f + 1) k) (V (f + 2) k) t
abbrev nS (V : gV) (f : Nat) : Int → Int := fun t => bt (V f 15) (V f 16) t
def meX (V0 V : gV) (f x : Nat) (S : Int → Int) : Prop := (0 ≤ V f 12 ∧ V f 12 ≤ 120) ∧ (∀ i, 0 ≤ i → i < V f 12 → 0 ≤ V (f + 10) i ∧ V (f + 10) i < V0 x 1 ∧ S (V (f + 10) i) = 1) ∧ (∀ t, 0 ≤ t → t < V0 x 1 → S t = 1 → ∃ i, 0 ≤ i ∧ i < V f 12 ∧ V (f + 10) i = t)
section
variable {G : List gS} {R V V0 : gV} {T : gT} {f x p n : Nat} {C D : Int}
theorem fv_m {S : Nat → Int → Prop} {V' : gV} (h : fv T f V0 V) (th : TH T V') (fr : Fr S V V') (hs : ∀ c i, S c i → f ≤ c ∧ c ≤ f + 11) : fv T f V0 V' := ⟨th, Fr_t h.2 (Fr_m fr hs)⟩
theorem fv_x (c : fc G R T f x p n C D V0) (h : fv T f V0 V) : V x 1 = V0 x 1 ∧ V x 2 = V0 x 2 ∧ (∀ i, V (x + 2) i = V0 (x + 2) i) ∧ (∀ i, V (x + 3) i = V0 (x + 3) i) ∧ (∀ i, V (x + 4) i = V0 (x + 4) i) ∧ V0 x 1 ≤ C := by
  obtain ⟨_, t, hD, sx, sp, tx⟩ := c
  have e1 : V x 1 = V0 x 1 := h.2 _ _ (by omega)
  have ct := t.ct _ (h.1 x 1)
  exact ⟨e1, h.2 _ _ (by omega), fun i => h.2 _ _ (by omega), fun i => h.2 _ _ (by omega), fun i => h.2 _ _ (by omega), by omega⟩
theorem times_z (c : fc G R T f x p n C D V0) (h : fv T f V0 V) {a b : Int} (ha : 0 ≤ a ∧ a < V0 x 1) (hb : 0 ≤ b ∧ b < V0 x 1) : cpI 1 (pMul V0 x p a b) 89 [(4, (x : Int)), (0, a), (0, b)] G R V := by
  obtain ⟨e1, _, _, _, _, hC⟩ := fv_x c h
  obtain ⟨_, t, hD, sx, sp, tx⟩ := c
  have te := times_e (V := V) t hD h.1 (a := a) (b := b) (by omega) (by omega)
  rw [e1, h.2 p _ (by omega)] at te
  exact te
theorem ledBy_z (c : fc G R T f x p n C D V0) (h : fv T f V0 V) {a b : Int} (ha : 0 ≤ a ∧ a < V0 x 1) (hb : 0 ≤ b ∧ b < V0 x 1) : cpI 2 (pMul V0 x p (pMul V0 x p (V0 (x + 2) a) b) a) 90 [(4, (x : Int)), (0, a), (0, b)] G R V := by
  obtain ⟨e1, _, e2, _, _, hC⟩ := fv_x c h
  have tx := c.2.2.2.2.2
  have g := tx.2.2.1
  have iv := g.2.2.2.2 a ha.1 ha.2
  have m1 := g.2.1 _ b iv.1 iv.2.1 hb.1 hb.2
  have N1 := tx.1
  refine c_X6_ledBy (t_X6_ledBy_0 c.2.1.ly ⟨by omega, fun _ => ?_⟩)
  rw [e2]
  exact cpI_u (by omega) (times_z c h ⟨iv.1, iv.2.1⟩ hb) (cpI_u (by omega) (times_z c h m1 ha) ⟨rfl, rfl⟩)
theorem isFirst_z (c : fc G R T f x p n C D V0) (h : fv T f V0 V) {a : Int} (ha : 0 ≤ a ∧ a < V0 x 1) : cwv 2 (fun r V' => ∃ v : Int, r = some (0, v) ∧ (V' = V ∧ (0 ≤ v ∧ v ≤ 1) ∧ (v = 0 → ¬ fst0 V0 x p a))) 42 [(0, a), (4, (x : Int))] G R V := by
  obtain ⟨e1, _, e2, e3, _, hC⟩ := fv_x c h
  have tx := c.2.2.2.2.2
  have g := tx.2.2.1
  have N1 := tx.1
  have ho := (c.2.1.od _ _).mp (h.1 (x + 3) a)
  refine c_X3_isFirstOfItsHeap (t_X3_isFirstOfItsHeap_0 c.2.1.ly ?_)
  refine pool2 (f := fun q i => [some (0, a), some (4, (x : Int)), some (0, q), some (0, i)]) (Inv := fun q i => ∃ I : Nat, i = (I : Int) ∧ 1 ≤ I ∧ I ≤ 122 ∧ q = pw (pMul V0 x p) a I) (μ := fun _ i => (122 - i).toNat) (fun q i hh ih => ?_) a 1 ⟨1, rfl, by omega, by omega, (pw_1 g ha).symm⟩
  obtain ⟨I, eI, I1, I2, eq⟩ := hh
  subst eI
  have rq := pw_r g (x := a) ha I
  rw [← eq] at rq
  have nx : (I : Int) < 121 → cwv 1 (fun r V8 => ∃ v8 : Int, r = some (0, v8) ∧ ((i32 ((I : Int) + 1)) ∧ wpv K_X3_isFirstOfItsHeap 1 (fun r V' => ∃ v : Int, r = some (0, v) ∧ (V' = V ∧ (0 ≤ v ∧ v ≤ 1) ∧ (v = 0 → ¬ fst0 V0 x p a))) 4 [some (0, a), some (4, (x : Int)), some (0, v8), some (0, ((I : Int) + 1))] [] G R V8)) 89 [(4, (x : Int)), (0, q), (0, a)] G R V := fun w => cpI_u (by omega) (times_z c h rq ha) ⟨by omega, ih _ _ ⟨I + 1, by omega, by omega, by omega, by rw [eq]; rfl⟩ (by omega)⟩
  refine t_X3_isFirstOfItsHeap_4 c.2.1.ly ⟨by omega, fun _ => ⟨by omega, fun _ => ⟨1, rfl, rfl, by omega, fun z => absurd z (by omega)⟩, fun z => ⟨by omega, by omega, fun _ => nx (by omega), fun z1 => ⟨by omega, fun _ => ⟨fun _ => nx (by omega), fun z2 => ⟨0, rfl, rfl, by omega, fun _ ff => ?_⟩⟩⟩⟩⟩⟩
  rw [e3, e3] at z2
  rw [e3] at z
  exact ff I I1 z ⟨by rw [← eq]; exact z1, by rw [← eq]; exact z2⟩
theorem gatherSeeds_x (c : fc G R T f x p n C D V0) (h : fv T f V0 V) : cwv 3 (fun r V' => r = none ∧ (TH T V' ∧ Fr (Sse f) V V' ∧ seX V0 V' f x p)) 41 [(4, (f : Int)), (4, (x : Int))] G R V := by
  have u := c.1
  have tx := c.2.2.2.2.2
  have N1 := tx.1
  have sx := c.2.2.2.1
  refine c_X3_gatherSeeds (t_X3_gatherSeeds_0 u.ly c.2.1.ly ?_)
  refine loop1 (f := fun a => [some (4, (f : Int)), some (4, (x : Int)), some (0, a)]) (Inv := fun a V1 => TH T V1 ∧ Fr (Sse f) V V1 ∧ (1 ≤ a ∧ a ≤ V0 x 1) ∧ (0 ≤ V1 f 9 ∧ V1 f 9 ≤ a - 1) ∧ (∀ i, 0 ≤ i → i < V1 f 9 → 1 ≤ V1 (f + 8) i ∧ V1 (f + 8) i < V0 x 1) ∧ (∀ t, 1 ≤ t → t < a → ppf (V0 (x + 3) t).toNat = true → fst0 V0 x p t → ∃ i, 0 ≤ i ∧ i < V1 f 9 ∧ V1 (f + 8) i = t)) (μ := fun a _ => (121 - a).toNat) (fun a V1 hh ih => ?_) 1 _ ⟨TH_wr h.1 ((u.sd _).mpr (by omega)), Fr_w Fr_0 (Or.inl ⟨rfl, rfl⟩), by omega, by rw [wr_same]; omega, fun i i0 i1 => by rw [wr_same] at i1; omega, fun t t0 t1 => by omega⟩
  obtain ⟨th1, fr, a0, n0, hr, hs⟩ := hh
  have h1 : fv T f V0 V1 := fv_m h th1 fr (by omega)
  obtain ⟨e1, _, _, e3, _, hC⟩ := fv_x c h1
  have od := (c.2.1.od _ _).mp (th1 (x + 3) a)
  refine t_X3_gatherSeeds_7 u.ly c.2.1.ly (fun _ => ⟨by omega, fun z => ⟨rfl, th1, fr, by omega, hr, fun t t0 t1 => hs t t0 (by omega)⟩, fun z => ⟨by omega, fun _ => ?_⟩⟩)
  have oa := (tx.2.2.2.1 a (by omega) (by omega)).1
  have skip : ¬ (ppf (V0 (x + 3) a).toNat = true ∧ fst0 V0 x p a) → ∀ t, 1 ≤ t → t < a + 1 → ppf (V0 (x + 3) t).toNat = true → fst0 V0 x p t → ∃ i, 0 ≤ i ∧ i < V1 f 9 ∧ V1 (f + 8) i = t := by
    intro w t t0 t1 t2 t3
    by_cases y : t = a
    · rw [y] at t2 t3; exact absurd ⟨t2, t3⟩ w
    · exact hs t t0 (by omega) t2 t3
  rw [e3] at od ⊢
  refine cpI_u (by omega) (isPowerOfPrime_e (by omega)) ⟨bi32 _, fun z1 => ⟨by omega, ih _ _ ⟨th1, fr, by omega, by omega, hr, skip (fun w => bi_0.mp z1 w.1)⟩ (by omega)⟩, fun z1 => ?_⟩
  refine cwI_u (by omega) (isFirst_z c h1 (a := a) (by omega)) (fun v V2 hv => ?_)
  obtain ⟨eV, v01, hv⟩ := hv
  subst eV
  refine ⟨by omega, fun z2 => ⟨by omega, ih _ _ ⟨th1, fr, by omega, by omega, hr, skip (fun w => hv z2 w.2)⟩ (by omega)⟩, fun z2 _ => ⟨by omega, by omega, by omega, ih _ _ ⟨TH_wr (TH_wr th1 (u.se _ _)) ((u.sd _).mpr (by omega)), Fr_w (Fr_w fr (Or.inr rfl)) (Or.inl ⟨rfl, rfl⟩), by omega, by rw [wr_same]; omega, fun i i0 i1 => ?_, fun t t0 t1 t2 t3 => ?_⟩ (by omega)⟩⟩
  · rw [wr_same] at i1
    rw [wr_a (by omega)]
    by_cases y : i = V2 f 9
    · rw [y, wr_same]; omega
    · rw [wr_i y]; exact hr i i0 (by omega)
  · rw [wr_same]
    by_cases y : t = a
    · exact ⟨V2 f 9, n0.1, by omega, by rw [wr_a (by omega), wr_same, y]⟩
    · obtain ⟨i, i0, i1, i2⟩ := hs t t0 (by omega) t2 t3
      exact ⟨i, i0, by omega, by rw [wr_a (by omega), wr_i (by omega)]; exact i2⟩
theorem fillLed_x (c : fc G R T f x p n C D V0) (h : fv T f V0 V) : cwv 3 (fun r V' => r = none ∧ (TH T V' ∧ Fr (Sle f) V V' ∧ leX V0 V' f x p)) 43 [(4, (f : Int)), (4, (x : Int))] G R V := by
  have u := c.1
  have tx := c.2.2.2.2.2
  have N1 := tx.1
  have K1 := tx.2.1
  have sx := c.2.2.2.1
  refine c_X3_fillLed (t_X3_fillLed_0 u.ly c.2.1.ly ?_)
  refine loop1 (f := fun a => [some (4, (f : Int)), some (4, (x : Int)), some (0, a)]) (Inv := fun a V1 => TH T V1 ∧ Fr (Sle f) V V1 ∧ (0 ≤ a ∧ a ≤ V0 x 2) ∧ (∀ m t, 0 ≤ m → m < a → 0 ≤ t → t < V0 x 1 → V1 (f + 9) (m * 120 + t) = pMul V0 x p (pMul V0 x p (V0 (x + 2) (V0 (x + 4) (m * 120))) t) (V0 (x + 4) (m * 120)))) (μ := fun a _ => (4 - a).toNat) (fun a V1 hh ih => ?_) 0 _ ⟨h.1, Fr_0, by omega, fun m t m0 m1 => by omega⟩
  obtain ⟨th1, fr, a0, hs⟩ := hh
  have h1 : fv T f V0 V1 := fv_m h th1 fr (by omega)
  obtain ⟨e1, e2, _, _, e4, hC⟩ := fv_x c h1
  refine t_X3_fillLed_2 u.ly c.2.1.ly (fun _ => ⟨by omega, fun z => ⟨rfl, th1, fr, fun m t m0 m1 t0 t1 => hs m t m0 (by omega) t0 t1⟩, fun z => ⟨by omega, by omega, fun _ => ?_⟩⟩)
  rw [e4]
  have ga := tx.2.2.2.2.1 a a0.1 (by omega)
  refine loop1 (f := fun b => [some (4, (f : Int)), some (4, (x : Int)), some (0, a), some (0, V0 (x + 4) (a * 120)), some (0, b)]) (Inv := fun b V1 => TH T V1 ∧ Fr (Sle f) V V1 ∧ (0 ≤ b ∧ b ≤ V0 x 1) ∧ (∀ m t, 0 ≤ m → 0 ≤ t → t < V0 x 1 → (m < a ∨ (m = a ∧ t < b)) → V1 (f + 9) (m * 120 + t) = pMul V0 x p (pMul V0 x p (V0 (x + 2) (V0 (x + 4) (m * 120))) t) (V0 (x + 4) (m * 120)))) (μ := fun b _ => (120 - b).toNat) (fun b V1 h2 ih2 => ?_) 0 V1 ⟨th1, fr, by omega, fun m t m0 t0 t1 q => hs m t m0 (by omega) t0 t1⟩
  rw [e2] at z
  clear th1 fr hs h1 e1 e2 e4 hC
  obtain ⟨th1, fr, b0, hs⟩ := h2
  have h1 : fv T f V0 V1 := fv_m h th1 fr (by omega)
  obtain ⟨e1, e2, _, _, e4, hC⟩ := fv_x c h1
  refine t_X3_fillLed_23 u.ly c.2.1.ly (fun _ => ⟨by omega, fun z1 => ⟨by omega, ih _ _ ⟨th1, fr, by omega, fun m t m0 m1 t0 t1 => hs m t m0 t0 t1 (by omega)⟩ (by omega)⟩, fun z1 => ⟨by omega, by omega, ?_⟩⟩)
  rw [e1] at z1
  have iv := tx.2.2.1.2.2.2.2 _ ga.1 ga.2
  have m1 := tx.2.2.1.2.1 _ b iv.1 iv.2.1 b0.1 z1
  have m2 := tx.2.2.1.2.1 _ _ m1.1 m1.2 ga.1 ga.2
  (try dsimp only at m2)
  refine cpI_u (by omega) (ledBy_z c h1 (a := V0 (x + 4) (a * 120)) (b := b) ga ⟨b0.1, z1⟩) ⟨by omega, by omega, by omega, ih2 _ _ ⟨TH_wr th1 (u.le _ _), Fr_w fr rfl, by omega, fun m t m0 t0 t1 q => ?_⟩ (by omega)⟩
  by_cases y : m = a ∧ t = b
  · rw [y.1, y.2, wr_same]
  · rw [wr_i (by omega)]; exact hs m t m0 t0 t1 (by omega)
theorem gatherMembers_x (c : fc G R T f x p n C D V0) (h : fv T f V0 V) {a : Int} (ha : 0 ≤ a ∧ a < 300) : cwv 2 (fun r V' => r = none ∧ (TH T V' ∧ Fr (Sme f) V V' ∧ meX V0 V' f x (hS V f a) ∧ V' f 12 = sm (hS V f a) (V0 x 1).toNat)) 46 [(4, (f : Int)), (0, a), (4, (x : Int))] G R V := by
  have u := c.1
  have N1 := c.2.2.2.2.2.1
  have sx := c.2.2.2.1
  refine c_X3_gatherMembers (t_X3_gatherMembers_0 u.ly c.2.1.ly ?_)
  refine loop1 (f := fun b => [some (4, (f : Int)), some (0, a), some (4, (x : Int)), some (0, b)]) (Inv := fun b V1 => TH T V1 ∧ Fr (Sme f) V V1 ∧ (0 ≤ b ∧ b ≤ V0 x 1) ∧ (0 ≤ V1 f 12 ∧ V1 f 12 ≤ b ∧ V1 f 12 = sm (hS V f a) b.toNat) ∧ (∀ i, 0 ≤ i → i < V1 f 12 → 0 ≤ V1 (f + 10) i ∧ V1 (f + 10) i < V0 x 1 ∧ hS V f a (V1 (f + 10) i) = 1) ∧ (∀ t, 0 ≤ t → t < b → hS V f a t = 1 → ∃ i, 0 ≤ i ∧ i < V1 f 12 ∧ V1 (f + 10) i = t)) (μ := fun b _ => (120 - b).toNat) (fun b V1 hh ih => ?_) 0 _ ⟨TH_wr h.1 ((u.mb _).mpr (by omega)), Fr_w Fr_0 (Or.inl ⟨rfl, rfl⟩), by omega, by rw [wr_same]; exact ⟨by omega, by omega, rfl⟩, fun i i0 i1 => by rw [wr_same] at i1; omega, fun t t0 t1 => by omega⟩
  obtain ⟨th1, fr, b0, n0, hr, hs⟩ := hh
  have h1 : fv T f V0 V1 := fv_m h th1 fr (by omega)
  obtain ⟨e1, _, _, _, _, hC⟩ := fv_x c h1
  have s1 : V1 (f + 1) a = V (f + 1) a := fr _ _ (by omega)
  have s2 : V1 (f + 2) a = V (f + 2) a := fr _ _ (by omega)
  refine t_X3_gatherMembers_7 u.ly c.2.1.ly (fun _ => ⟨by omega, fun z => ⟨rfl, th1, fr, ⟨by omega, hr, fun t t0 t1 => hs t t0 (by omega)⟩, by rw [n0.2.2, show b = V0 x 1 by omega]⟩, fun z => ⟨by omega, fun _ _ => ?_⟩⟩)
  rw [s1, s2]
  have ss := sm_s (hS V f a) b0.1
  refine cpI_u (by omega) (holds_e (by omega)) ⟨by rcases bt_01 (V (f + 1) a) (V (f + 2) a) b with w | w <;> omega, fun z1 => ⟨by omega, ih _ _ ⟨th1, fr, by omega, ⟨n0.1, by omega, by rw [ss]; have q : hS V f a b = 0 := z1; omega⟩, hr, fun t t0 t1 t2 => ?_⟩ (by omega)⟩, fun z1 _ => ⟨by omega, by omega, by omega, ih _ _ ⟨TH_wr (TH_wr th1 (u.me _ _)) ((u.mb _).mpr (by omega)), Fr_w (Fr_w fr (Or.inr rfl)) (Or.inl ⟨rfl, rfl⟩), by omega, by rw [wr_same, ss]; have q : hS V f a b = 1 := (by rcases bt_01 (V (f + 1) a) (V (f + 2) a) b with w | w; exact absurd w z1; exact w); exact ⟨by omega, by omega, by omega⟩, fun i i0 i1 => ?_, fun t t0 t1 t2 => ?_⟩ (by omega)⟩⟩
  · by_cases y : t = b
    · rw [y] at t2
      have t3 : bt (V (f + 1) a) (V (f + 2) a) b = 1 := t2
      omega
    · exact hs t t0 (by omega) t2
  · rw [wr_same] at i1
    rw [wr_a (by omega)]
    by_cases y : i = V1 f 12
    · rw [y, wr_same]
      exact ⟨b0.1, by omega, by rcases bt_01 (V (f + 1) a) (V (f + 2) a) b with w | w <;> omega⟩
    · rw [wr_i y]; exact hr i i0 (by omega)
  · rw [wr_same]
    by_cases y : t = b
    · exact ⟨V1 f 12, n0.1, by omega, by rw [wr_a (by omega), wr_same, y]⟩
    · obtain ⟨i, i0, i1, i2⟩ := hs t t0 (by omega) t2
      exact ⟨i, i0, by omega, by rw [wr_a (by omega), wr_i (by omega)]; exact i2⟩
theorem addToNew_x (u : fT G R T f) (th : TH T V) {a : Int} (ha : 0 ≤ a ∧ a < 128) : cwv 1 (fun r V' => r = none ∧ (TH T V' ∧ Fr (S15 f) V V' ∧ ∀ t, 0 ≤ t → t < 128 → nS V' f t = if t = a then 1 else nS V f t)) 49 [(4, (f : Int)), (0, a)] G R V := by
  refine c_X3_addToNew (t_X3_addToNew_0 u.ly ⟨by omega, fun z _ => ⟨rfl, TH_wr th (u.nh _), Fr_w Fr_0 (by omega), fun t t0 t1 => ?_⟩, fun z _ => ⟨rfl, TH_wr th (u.nl _), Fr_w Fr_0 (by omega), fun t t0 t1 => ?_⟩⟩)
  · show bt (wr V f 16 (jor (V f 16) (jshl 1 (kand a 63))) f 15) (wr V f 16 (jor (V f 16) (jshl 1 (kand a 63))) f 16) t = if t = a then 1 else bt (V f 15) (V f 16) t
    rw [wr_same, wr_i (by omega), ← bt_ad ha ⟨t0, t1⟩]
    unfold adL adH
    rw [if_neg z, if_neg z]
  · show bt (wr V f 15 (jor (V f 15) (jshl 1 a)) f 15) (wr V f 15 (jor (V f 15) (jshl 1 a)) f 16) t = if t = a then 1 else bt (V f 15) (V f 16) t
    rw [wr_same, wr_i (by omega), ← bt_ad ha ⟨t0, t1⟩]
    unfold adL adH
    rw [if_pos z, if_pos z]
theorem addMembersTimes_x (c : fc G R T f x p n C D V0) (h : fv T f V0 V) {S : Int → Int} (hm : meX V0 V f x S) {a : Int} (ha : 0 ≤ a ∧ a < V0 x 1) : cwv 2 (fun r V' => r = none ∧ (TH T V' ∧ Fr (S15 f) V V' ∧ ∀ t, 0 ≤ t → t < 128 → (nS V' f t = 1 ↔ (nS V f t = 1 ∨ ∃ s, 0 ≤ s ∧ s < V0 x 1 ∧ S s = 1 ∧ t = pMul V0 x p s a)))) 48 [(4, (f : Int)), (0, a), (4, (x : Int))] G R V := by
  have u := c.1
  have N1 := c.2.2.2.2.2.1
  have g := c.2.2.2.2.2.2.2.1
  refine c_X3_addMembersTimes (t_X3_addMembersTimes_0 u.ly c.2.1.ly ?_)
  refine loop1 (f := fun b => [some (4, (f : Int)), some (0, a), some (4, (x : Int)), some (0, b)]) (Inv := fun b V1 => TH T V1 ∧ Fr (S15 f) V V1 ∧ (0 ≤ b ∧ b ≤ 120) ∧ b ≤ V f 12 ∧ ∀ t, 0 ≤ t → t < 128 → (nS V1 f t = 1 ↔ (nS V f t = 1 ∨ ∃ i, 0 ≤ i ∧ i < b ∧ t = pMul V0 x p (V (f + 10) i) a))) (μ := fun b _ => (120 - b).toNat) (fun b V1 hh ih => ?_) 0 _ ⟨h.1, Fr_0, by omega, hm.1.1, fun t t0 t1 => ⟨Or.inl, fun w => by rcases w with w | ⟨i, i0, i1, _⟩; exact w; omega⟩⟩
  obtain ⟨th1, fr, b0, b1, hs⟩ := hh
  have h1 : fv T f V0 V1 := fv_m h th1 fr (by omega)
  have m12 : V1 f 12 = V f 12 := fr _ _ (by omega)
  have m10 : ∀ i, V1 (f + 10) i = V (f + 10) i := fun i => fr _ _ (by omega)
  have hm1 := hm.1
  refine t_X3_addMembersTimes_2 u.ly c.2.1.ly (fun _ => ⟨by omega, fun z => ⟨rfl, th1, fr, fun t t0 t1 => ?_⟩, fun z => ⟨by omega, fun _ => ?_⟩⟩)
  · rw [hs t t0 t1]
    constructor
    · intro w
      rcases w with w | ⟨i, i0, i1, i2⟩
      · exact Or.inl w
      · have q := hm.2.1 i i0 (by omega)
        exact Or.inr ⟨_, q.1, q.2.1, q.2.2, i2⟩
    · intro w
      rcases w with w | ⟨s, s0, s1, s2, s3⟩
      · exact Or.inl w
      · obtain ⟨i, i0, i1, i2⟩ := hm.2.2 s s0 s1 s2
        exact Or.inr ⟨i, i0, by omega, by rw [i2]; exact s3⟩
  · rw [m10]
    have mb := hm.2.1 b b0.1 (by omega)
    have mr := g.2.1 _ a mb.1 mb.2.1 ha.1 ha.2
    refine cpI_u (by omega) (times_z c h1 ⟨mb.1, mb.2.1⟩ ha) (cw0_u (by omega) (addToNew_x u th1 (by omega)) (fun V2 h2 => ⟨by omega, ih _ _ ⟨h2.1, Fr_t fr h2.2.1, by omega, by omega, fun t t0 t1 => ?_⟩ (by omega)⟩))
    rw [h2.2.2 t t0 t1]
    constructor
    · intro w
      by_cases y : t = pMul V0 x p (V (f + 10) b) a
      · exact Or.inr ⟨b, b0.1, by omega, y⟩
      · rw [if_neg y] at w
        rcases (hs t t0 t1).mp w with w | ⟨i, i0, i1, i2⟩
        · exact Or.inl w
        · exact Or.inr ⟨i, i0, by omega, i2⟩
    · intro w
      by_cases y : t = pMul V0 x p (V (f + 10) b) a
      · rw [if_pos y]
      · rw [if_neg y]
        refine (hs t t0 t1).mpr ?_
        rcases w with w | ⟨i, i0, i1, i2⟩
        · exact Or.inl w
        · by_cases y2 : i = b
          · rw [y2] at i2; exact absurd i2 y
          · exact Or.inr ⟨i, i0, by omega, i2⟩
theorem indexFrom_x (u : fT G R T f) (th : TH T V) {s a b : Int} (hs : 0 ≤ s ∧ s ≤ V f 0) (ha : i64 a) (hb : i64 b) : cwv 1 (fun r V' => ∃ v : Int, r = some (0, v) ∧ (V' = V ∧ ((v = -1 ∧ ∀ k, s ≤ k → k < V f 0 → ¬ (V (f + 1) k = a ∧ V (f + 2) k = b)) ∨ (s ≤ v ∧ v < V f 0 ∧ V (f + 1) v = a ∧ V (f + 2) v = b)))) 50 [(4, (f : Int)), (0, s), (2, a), (2, b)] G R V := by
  have c := (u.cn _).mp (th f 0)
  refine c_X3_indexFrom (t_X3_indexFrom_0 u.ly ?_)
  refine pool1 (f := fun h => [some (4, (f : Int)), none, some (2, a), none, some (2, b), none, some (0, h)]) (Inv := fun h => s ≤ h ∧ h ≤ V f 0 ∧ ∀ k, s ≤ k → k < h → ¬ (V (f + 1) k = a ∧ V (f + 2) k = b)) (μ := fun h => (300 - h).toNat) (fun h hh ih => ?_) s ⟨by omega, by omega, fun k k0 k1 => by omega⟩
  obtain ⟨h0, h1, hk⟩ := hh
  have nx : ¬ (V (f + 1) h = a ∧ V (f + 2) h = b) → ∀ k, s ≤ k → k < h + 1 → ¬ (V (f + 1) k = a ∧ V (f + 2) k = b) := by
    intro w k k0 k1
    by_cases y : k = h
    · rw [y]; exact w
    · exact hk k k0 (by omega)
  exact t_X3_indexFrom_3 u.ly (fun _ => ⟨by omega, fun z => ⟨-1, rfl, rfl, Or.inl ⟨rfl, fun k k0 k1 => hk k k0 (by omega)⟩⟩, fun z => ⟨by omega, fun _ => ⟨ha, fun z1 => ⟨by omega, ih _ ⟨by omega, by omega, nx (fun w => z1 w.1)⟩ (by omega)⟩, fun z1 _ => ⟨hb, fun z2 => ⟨by omega, ih _ ⟨by omega, by omega, nx (fun w => z2 w.2)⟩ (by omega)⟩, fun z2 => ⟨h, rfl, rfl, Or.inr ⟨h0, z, z1, z2⟩⟩⟩⟩⟩⟩)
theorem addNew_x (u : fT G R T f) (th : TH T V) : cwv 1 (fun r V' => ∃ v : Int, r = some (0, v) ∧ (TH T V' ∧ Fr (San f) V V' ∧ ((v = 0 ∧ V' = V ∧ V f 0 = 300) ∨ (v = 1 ∧ V f 0 < 300 ∧ V' f 0 = V f 0 + 1 ∧ (∀ k, k ≠ V f 0 → V' (f + 1) k = V (f + 1) k ∧ V' (f + 2) k = V (f + 2) k) ∧ V' (f + 1) (V f 0) = V f 15 ∧ V' (f + 2) (V f 0) = V f 16 ∧ V' (f + 3) (V f 0) = V f 17 ∧ V' (f + 4) (V f 0) = V f 5 ∧ ∀ k, k ≠ V f 0 → V' (f + 3) k = V (f + 3) k ∧ V' (f + 4) k = V (f + 4) k)))) 52 [(4, (f : Int))] G R V := by
  have c := (u.cn _).mp (th f 0)
  have s := (u.ns _).mp (th f 17)
  refine c_X3_addNew (t_X3_addNew_0 u.ly (fun _ => ⟨fun h => (fun _ => ⟨by omega, fun _ _ _ => ⟨by omega, 1, rfl, ?_, ?_, Or.inr ⟨rfl, h, wr_same _ _ _ _, fun k hk => ?_, ?_, ?_, ?_, ?_, fun k hk => ⟨?_, ?_⟩⟩⟩⟩), fun h => ⟨0, rfl, th, Fr_0, Or.inl ⟨rfl, rfl, by omega⟩⟩⟩))
  · exact TH_wr (TH_wr (TH_wr (TH_wr (TH_wr th (u.lo _ _)) (u.hi _ _)) ((u.sz _ _).mpr (by omega))) (u.ki _ _)) ((u.cn _).mpr (by omega))
  · exact Fr_w (Fr_w (Fr_w (Fr_w (Fr_w Fr_0 (by omega)) (by omega)) (by omega)) (by omega)) (by omega)
  · refine ⟨?_, ?_⟩
    · rw [wr_a (by omega), wr_a (by omega), wr_a (by omega), wr_a (by omega), wr_i hk]
    · rw [wr_a (by omega), wr_a (by omega), wr_a (by omega), wr_i hk, wr_a (by omega)]
  · rw [wr_a (by omega), wr_a (by omega), wr_a (by omega), wr_a (by omega), wr_same]
  · rw [wr_a (by omega), wr_a (by omega), wr_a (by omega), wr_same]
  · rw [wr_a (by omega), wr_a (by omega), wr_same]
  · rw [wr_a (by omega), wr_same]
  · rw [wr_a (by omega), wr_a (by omega), wr_i hk, wr_a (by omega), wr_a (by omega)]
  · rw [wr_a (by omega), wr_i hk, wr_a (by omega), wr_a (by omega), wr_a (by omega)]
end
