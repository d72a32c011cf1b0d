/-! sums once more: turned round, over a permutation, over fibres -/
theorem sm_zz {f : Int → Int} {n : Nat} (h : ∀ i : Int, 0 ≤ i → i < n → f i = 0) : sm f n = 0 := by
  induction n with
  | zero => rfl
  | succ n ih =>
    show sm f n + f n = 0
    rw [ih (fun i a b => h i a (by omega)), h n (by omega) (by omega)]
    rfl
theorem sm_k (c : Int) : ∀ n : Nat, sm (fun _ => c) n = n * c := by
  intro n
  induction n with
  | zero => show (0 : Int) = ((0 : Nat) : Int) * c; rw [Int.natCast_zero, Int.zero_mul]
  | succ n ih =>
    show sm (fun _ => c) n + c = ((n + 1 : Nat) : Int) * c
    rw [ih, Int.natCast_add, Int.add_mul]
    show _ = _ + (1 : Int) * c
    rw [Int.one_mul]
theorem sm_cm (c : Int) (f : Int → Int) : ∀ n : Nat, sm (fun i => c * f i) n = c * sm f n := by
  intro n
  induction n with
  | zero => show (0 : Int) = c * 0; rw [Int.mul_zero]
  | succ n ih =>
    show sm (fun i => c * f i) n + c * f n = c * (sm f n + f n)
    rw [ih, Int.mul_add]
theorem sm_mc (c : Int) (f : Int → Int) (n : Nat) : sm (fun i => f i * c) n = sm f n * c := by
  rw [Int.mul_comm, ← sm_cm]
  exact sm_congr (fun i _ _ => Int.mul_comm _ _)
theorem sm_nn {f : Int → Int} : ∀ {n : Nat}, (∀ i : Int, 0 ≤ i → i < n → 0 ≤ f i) → 0 ≤ sm f n := by
  intro n h
  have := sm_le (f := fun _ => 0) (g := f) (n := n) h
  rw [sm_zz (fun _ _ _ => rfl)] at this
  exact this
theorem sm_swap (a : Int → Int → Int) (m : Nat) : ∀ n : Nat, sm (fun i => sm (fun j => a i j) m) n = sm (fun j => sm (fun i => a i j) n) m := by
  intro n
  induction n with
  | zero => exact (sm_zz (fun _ _ _ => rfl)).symm
  | succ n ih =>
    show sm (fun i => sm (fun j => a i j) m) n + sm (fun j => a n j) m = sm (fun j => sm (fun i => a i j) n + a n j) m
    rw [sm_add (fun j => sm (fun i => a i j) n) (fun j => a n j), ih]
theorem sm_perm {f : Int → Int} : ∀ {n : Nat} {σ : Int → Int}, (∀ i : Int, 0 ≤ i → i < n → 0 ≤ σ i ∧ σ i < n) → (∀ i j : Int, 0 ≤ i → i < n → 0 ≤ j → j < n → σ i = σ j → i = j) → sm (fun i => f (σ i)) n = sm f n := by
  intro n
  induction n with
  | zero => intro σ _ _; rfl
  | succ n ih =>
    intro σ h1 h2
    show sm (fun i => f (σ i)) n + f (σ n) = sm f n + f n
    by_cases q : σ n = n
    · rw [q, ih (σ := σ) (fun i i0 i1 => ?_) (fun i j i0 i1 j0 j1 e => h2 i j i0 (by omega) j0 (by omega) e)]
      have a := h1 i i0 (by omega)
      have b : σ i ≠ n := fun e => by
        have := h2 i n i0 (by omega) (by omega) (by omega) (by rw [e, q])
        omega
      omega
    · obtain ⟨j, j0, j1, j2⟩ := pig (φ := σ) (n := ((n + 1 : Nat) : Int)) (by omega) h1 h2 (y := n) (by omega) (by omega)
      have jn : j < n := by
        have : j ≠ n := fun e => q (by rw [e] at j2; exact j2)
        omega
      have e : (fun i => f (up1 σ j (σ n) i)) = up1 (fun i => f (σ i)) j (f (σ n)) := by
        funext i
        unfold up1
        split <;> rfl
      have k := ih (σ := up1 σ j (σ n)) (fun i i0 i1 => ?_) (fun i i' i0 i1 l0 l1 w => ?_)
      · rw [e, (sm_up j0).1 jn, j2] at k
        omega
      · unfold up1
        split
        · have := h1 n (by omega) (by omega)
          omega
        · rename_i ne
          have a := h1 i i0 (by omega)
          have b : σ i ≠ n := fun w => ne (h2 i j i0 (by omega) j0 j1 (by rw [w, j2]))
          omega
      · unfold up1 at w
        split at w
        · rename_i e1
          split at w
          · rename_i e2
            omega
          · have := h2 n i' (by omega) (by omega) l0 (by omega) w
            omega
        · split at w
          · have := h2 i n i0 (by omega) (by omega) (by omega) w
            omega
          · exact h2 i i' i0 (by omega) l0 (by omega) w
theorem sm_dl {g : Int → Int} {e : Int} : ∀ {m : Nat}, 0 ≤ e → e < m → sm (fun d => bi (e = d) * g d) m = g e := by
  intro m
  induction m with
  | zero => intro _ h; omega
  | succ m ih =>
    intro e0 e1
    show sm (fun d => bi (e = d) * g d) m + bi (e = (m : Int)) * g m = g e
    by_cases q : e = m
    · rw [bi_t q, sm_zz (fun i i0 i1 => by (try dsimp only); rw [bi_f (by omega), Int.zero_mul]), ← q]; omega
    · rw [bi_f q, ih e0 (by omega)]; omega
theorem sm_fib {f c : Int → Int} {n m : Nat} (h : ∀ i : Int, 0 ≤ i → i < n → 0 ≤ c i ∧ c i < m) : sm f n = sm (fun d => sm (fun i => bi (c i = d) * f i) n) m := by
  rw [← sm_swap (fun i d => bi (c i = d) * f i) m n]
  refine sm_congr (fun i i0 i1 => ?_)
  have := sm_dl (g := fun _ => f i) (h i i0 i1).1 (h i i0 i1).2
  exact this.symm
theorem bi_nn (p : Prop) : 0 ≤ bi p := by rcases bi_01 p with h | h <;> omega
theorem bi_and (p q : Prop) : bi (p ∧ q) = bi p * bi q := by
  by_cases h : p
  · rw [bi_t h, Int.one_mul]; exact bi_c ⟨fun z => z.2, fun z => ⟨h, z⟩⟩
  · rw [bi_f h, Int.zero_mul, bi_f (fun z => h z.1)]
/-! the one that is so -/
noncomputable def the (P : Int → Prop) : Int := @dite _ (∃ v, P v) (Classical.propDecidable _) (fun h => Classical.choose h) (fun _ => 0)
theorem the_s {P : Int → Prop} (h : ∃ v, P v) : P (the P) := by
  unfold the
  rw [dif_pos h]
  exact Classical.choose_spec h
theorem the_e {P : Int → Prop} {v : Int} (u : ∀ v w, P v → P w → v = w) (h : P v) : v = the P := u _ _ h (the_s ⟨v, h⟩)
/-! turns act on themselves -/
section
variable {N H C : Int} {mul : Int → Int → Int} {inv : Int → Int} {S : Int → Int → Int} {sz co fo nu f : Int → Int} {g h k a b c e : Int}
theorem inv_inv' (gt : GT N mul inv) (a0 : 0 ≤ a ∧ a < N) : inv (inv a) = a := by
  have i := gt.2.2.2.2 a a0.1 a0.2
  have j := gt.2.2.2.2 (inv a) i.1 i.2.1
  exact GT_cl gt ⟨i.1, i.2.1⟩ ⟨j.1, j.2.1⟩ a0 (by rw [j.2.2.1, i.2.2.2])
theorem GT_n (gt : GT N mul inv) : ((N.toNat : Nat) : Int) = N := Int.toNat_of_nonneg (by have := gt.1; omega)
theorem GT_i (gt : GT N mul inv) (a0 : 0 ≤ a ∧ a < N) : 0 ≤ inv a ∧ inv a < N := ⟨(gt.2.2.2.2 a a0.1 a0.2).1, (gt.2.2.2.2 a a0.1 a0.2).2.1⟩
theorem GT_m (gt : GT N mul inv) (a0 : 0 ≤ a ∧ a < N) (b0 : 0 ≤ b ∧ b < N) : 0 ≤ mul a b ∧ mul a b < N := gt.2.1 a b a0.1 a0.2 b0.1 b0.2
theorem GT_a (gt : GT N mul inv) (a0 : 0 ≤ a ∧ a < N) (b0 : 0 ≤ b ∧ b < N) (c0 : 0 ≤ c ∧ c < N) : mul (mul a b) c = mul a (mul b c) := gt.2.2.2.1 a b c a0.1 a0.2 b0.1 b0.2 c0.1 c0.2
theorem GT_ri (gt : GT N mul inv) (a0 : 0 ≤ a ∧ a < N) (b0 : 0 ≤ b ∧ b < N) : mul (mul a b) (inv b) = a := by
  rw [GT_a gt a0 b0 (GT_i gt b0), (gt.2.2.2.2 b b0.1 b0.2).2.2.1, (gt.2.2.1 a a0.1 a0.2).2]
theorem GT_rj (gt : GT N mul inv) (a0 : 0 ≤ a ∧ a < N) (b0 : 0 ≤ b ∧ b < N) : mul (mul a (inv b)) b = a := by
  rw [GT_a gt a0 (GT_i gt b0) b0, (gt.2.2.2.2 b b0.1 b0.2).2.2.2, (gt.2.2.1 a a0.1 a0.2).2]
theorem sm_mr (gt : GT N mul inv) (g0 : 0 ≤ g ∧ g < N) (f : Int → Int) : sm (fun x => f (mul x g)) N.toNat = sm f N.toNat := by
  have en := GT_n gt
  exact sm_perm (σ := fun x => mul x g) (fun i i0 i1 => by have := GT_m gt (a := i) ⟨i0, by omega⟩ g0; (try dsimp only); omega) (fun i j i0 i1 j0 j1 w => GT_cr gt g0 ⟨i0, by omega⟩ ⟨j0, by omega⟩ w)
theorem sm_iv (gt : GT N mul inv) (f : Int → Int) : sm (fun x => f (inv x)) N.toNat = sm f N.toNat := by
  have en := GT_n gt
  refine sm_perm (σ := inv) (fun i i0 i1 => by have := GT_i gt (a := i) ⟨i0, by omega⟩; omega) (fun i j i0 i1 j0 j1 w => ?_)
  rw [← inv_inv' gt (a := i) ⟨i0, by omega⟩, w, inv_inv' gt ⟨j0, by omega⟩]
/-- how many elements a closed set has divides how many a greater one has -/
theorem lagr (gt : GT N mul inv) {A B : Int → Int} (hA : SM N mul A) (hB : SM N mul B) (hs : sub1 N A B) : ∃ q : Int, sm B N.toNat = q * sm A N.toNat := by
  have en := GT_n gt
  have N1 := gt.1
  obtain ⟨P, hP⟩ : ∃ P : Int → Int → Prop, P = fun x y => (0 ≤ y ∧ y < N) ∧ (∃ s, 0 ≤ s ∧ s < N ∧ A s = 1 ∧ y = mul s x) ∧ ∀ s, 0 ≤ s → s < N → A s = 1 → y ≤ mul s x := ⟨_, rfl⟩
  have ex : ∀ x, 0 ≤ x → x < N → ∃ y, P x y := by
    intro x x0 x1
    have key : ∀ (w : Nat) (y : Int), y.toNat = w → 0 ≤ y → y < N → (∃ s, 0 ≤ s ∧ s < N ∧ A s = 1 ∧ y = mul s x) → ∃ y, P x y := by
      intro w
      induction w using Nat.strongRecOn with
      | ind w ih =>
        intro y yw y0 y1 hy
        by_cases q : ∀ s, 0 ≤ s → s < N → A s = 1 → y ≤ mul s x
        · exact ⟨y, by rw [hP]; exact ⟨⟨y0, y1⟩, hy, q⟩⟩
        · obtain ⟨s, z⟩ := Classical.not_forall.mp q
          have s0 : 0 ≤ s := Classical.byContradiction (fun r => z (fun a => absurd a r))
          have s1 : s < N := Classical.byContradiction (fun r => z (fun _ a => absurd a r))
          have s2 : A s = 1 := Classical.byContradiction (fun r => z (fun _ _ a => absurd a r))
          have s3 : ¬ y ≤ mul s x := fun r => z (fun _ _ _ => r)
          have m := GT_m gt (a := s) ⟨s0, s1⟩ (b := x) ⟨x0, x1⟩
          exact ih (mul s x).toNat (by omega) _ rfl m.1 m.2 ⟨s, s0, s1, s2, rfl⟩
    exact key _ x rfl x0 x1 ⟨0, by omega, by omega, hA.2.1, ((gt.2.2.1 x x0 x1).1).symm⟩
  have un : ∀ x y z, P x y → P x z → y = z := by
    intro x y z
    rw [hP]
    rintro ⟨_, ⟨s, s0, s1, s2, s3⟩, hy⟩ ⟨_, ⟨t, t0, t1, t2, t3⟩, hz⟩
    have a := hy t t0 t1 t2
    have b := hz s s0 s1 s2
    omega
  have sp : ∀ x, 0 ≤ x → x < N → P x (the (P x)) := fun x x0 x1 => the_s (ex x x0 x1)
  have pr : ∀ x y, P x y → 0 ≤ y ∧ y < N := fun x y h => by rw [hP] at h; exact h.1
  -- two of one round have one least
  have tr : ∀ x y s, 0 ≤ x → x < N → 0 ≤ s → s < N → A s = 1 → y = mul s x → the (P x) = the (P y) := by
    intro x y s x0 x1 s0 s1 s2 e
    have y0 : 0 ≤ y ∧ y < N := by rw [e]; exact GT_m gt ⟨s0, s1⟩ ⟨x0, x1⟩
    have p := sp x x0 x1
    refine un y _ _ ?_ (sp y y0.1 y0.2)
    rw [hP] at p ⊢
    obtain ⟨p0, ⟨t, t0, t1, t2, t3⟩, p2⟩ := p
    have is := GT_i gt (a := s) ⟨s0, s1⟩
    have ai : A (inv s) = 1 := SM_inv gt hA ⟨s0, s1⟩ s2
    have ti := GT_m gt (a := t) ⟨t0, t1⟩ is
    refine ⟨p0, ⟨mul t (inv s), ti.1, ti.2, hA.2.2 _ _ t0 t1 is.1 is.2 t2 ai, ?_⟩, fun u u0 u1 u2 => ?_⟩
    · rw [t3, e, ← GT_a gt ti ⟨s0, s1⟩ ⟨x0, x1⟩, GT_rj gt ⟨t0, t1⟩ ⟨s0, s1⟩]
    · have us := GT_m gt (a := u) ⟨u0, u1⟩ (b := s) ⟨s0, s1⟩
      have := p2 (mul u s) us.1 us.2 (hA.2.2 _ _ u0 u1 s0 s1 u2 s2)
      rw [GT_a gt ⟨u0, u1⟩ ⟨s0, s1⟩ ⟨x0, x1⟩] at this
      rw [e]; exact this
  have fb := sm_fib (f := B) (c := fun x => the (P x)) (n := N.toNat) (m := N.toNat) (fun x x0 x1 => by
    have := pr _ _ (sp x x0 (by omega))
    (try dsimp only)
    omega)
  refine ⟨sm (fun r => bi (the (P r) = r ∧ B r = 1)) N.toNat, ?_⟩
  rw [fb, ← sm_mc]
  refine sm_congr (fun r r0 r1 => ?_)
  have r1' : r < N := by omega
  (try dsimp only)
  by_cases q : the (P r) = r ∧ B r = 1
  · rw [bi_t q, Int.one_mul, ← imf_sm (a := A) (φ := fun s => mul s r) (n := N.toNat) N.toNat (fun i i0 i1 => hA.1 i i0 (by omega)) (fun i i0 i1 _ => by have := GT_m gt (a := i) ⟨i0, by omega⟩ (b := r) ⟨r0, r1'⟩; (try dsimp only); omega) (fun i j i0 i1 j0 j1 _ _ w => GT_cr gt ⟨r0, r1'⟩ ⟨i0, by omega⟩ ⟨j0, by omega⟩ w)]
    refine sm_congr (fun x x0 x1 => ?_)
    have x1' : x < N := by omega
    obtain ⟨i1, i2⟩ := imf_spec A (fun s => mul s r) N.toNat x
    (try dsimp only)
    by_cases y : the (P x) = r
    · have p := sp x x0 x1'
      rw [y, hP] at p
      obtain ⟨_, ⟨s, s0, s1, s2, s3⟩, _⟩ := p
      have is := GT_i gt (a := s) ⟨s0, s1⟩
      have ai : A (inv s) = 1 := SM_inv gt hA ⟨s0, s1⟩ s2
      have ex : mul (inv s) r = x := by
        rw [s3, ← GT_a gt is ⟨s0, s1⟩ ⟨x0, x1'⟩, (gt.2.2.2.2 s s0 s1).2.2.2, (gt.2.2.1 x x0 x1').1]
      have bx : B x = 1 := by
        rw [← ex]
        exact hB.2.2 _ _ is.1 is.2 r0 r1' (hs _ is.1 is.2 ai) q.2
      rw [bi_t y, bx, i2.mpr ⟨inv s, is.1, by omega, ai, ex⟩]
      rfl
    · rw [bi_f y, Int.zero_mul]
      rcases i1 with z | z
      · exact z.symm
      · exfalso
        obtain ⟨s, s0, s1, s2, s3⟩ := i2.mp z
        have := tr r x s r0 r1' s0 (by omega) s2 s3.symm
        rw [q.1] at this
        exact y this.symm
  · rw [bi_f q, Int.zero_mul]
    refine sm_zz (fun x x0 x1 => ?_)
    have x1' : x < N := by omega
    (try dsimp only)
    by_cases y : the (P x) = r
    · have p := sp x x0 x1'
      rw [y, hP] at p
      obtain ⟨_, ⟨s, s0, s1, s2, s3⟩, _⟩ := p
      have e := tr x r s x0 x1' s0 s1 s2 s3
      have b0 : B r ≠ 1 := fun z => q ⟨by rw [← e]; exact y, z⟩
      have bx : B x ≠ 1 := fun z => b0 (by rw [s3]; exact hB.2.2 _ _ s0 s1 x0 x1' (hs s s0 s1 s2) z)
      rcases hB.1 x x0 x1' with z | z
      · rw [z, Int.mul_zero]
      · exact absurd z bx
    · rw [bi_f y, Int.zero_mul]
/-! where heaps are led -/
theorem cj_mono (gt : GT N mul inv) {A B : Int → Int} (h : sub1 N A B) (g : Int) : sub1 N (cj N mul inv A g) (cj N mul inv B g) := fun t t0 t1 q => by
  obtain ⟨u, u0, u1, u2, u3⟩ := (cj_in gt).mp q
  exact (cj_in gt).mpr ⟨u, u0, u1, h u u0 u1 u2, u3⟩
noncomputable def ld (N H : Int) (mul : Int → Int → Int) (inv : Int → Int) (S : Int → Int → Int) (h g : Int) : Int := the (fun k => (0 ≤ k ∧ k < H) ∧ req N (S k) (cj N mul inv (S h) g))
theorem ld_s (gt : GT N mul inv) (hp : hpsP N H mul S sz) (h0 : 0 ≤ h ∧ h < H) (g0 : 0 ≤ g ∧ g < N) : (0 ≤ ld N H mul inv S h g ∧ ld N H mul inv S h g < H) ∧ req N (S (ld N H mul inv S h g)) (cj N mul inv (S h) g) := by
  obtain ⟨k, k0, k1, k2⟩ := hp.2.2.2.1 _ (cj_SM gt (hp.2.2.1 h h0.1 h0.2).1 g0).1
  exact the_s (P := fun k => (0 ≤ k ∧ k < H) ∧ req N (S k) (cj N mul inv (S h) g)) ⟨k, ⟨k0, k1⟩, k2⟩
theorem ld_e (gt : GT N mul inv) (hp : hpsP N H mul S sz) (h0 : 0 ≤ h ∧ h < H) (g0 : 0 ≤ g ∧ g < N) (k0 : 0 ≤ k ∧ k < H) (e : req N (S k) (cj N mul inv (S h) g)) : ld N H mul inv S h g = k := by
  have l := ld_s gt hp h0 g0
  exact hp.2.2.2.2 _ _ l.1.1 l.1.2 k0.1 k0.2 (rqt l.2 (rqs e))
theorem ld_m (gt : GT N mul inv) (hp : hpsP N H mul S sz) (h0 : 0 ≤ h ∧ h < H) (a0 : 0 ≤ a ∧ a < N) (b0 : 0 ≤ b ∧ b < N) : ld N H mul inv S h (mul a b) = ld N H mul inv S (ld N H mul inv S h a) b := by
  have l1 := ld_s gt hp h0 a0
  have l2 := ld_s gt hp l1.1 b0
  have s1 := (hp.2.2.1 _ l1.1.1 l1.1.2).1
  exact ld_e gt hp h0 (GT_m gt a0 b0) l2.1 (rqt l2.2 (rqt (cj_congr gt s1.1 l1.2 b) (cj_cj gt a0 b0)))
theorem ld_0 (gt : GT N mul inv) (hp : hpsP N H mul S sz) (h0 : 0 ≤ h ∧ h < H) : ld N H mul inv S h 0 = h := ld_e gt hp h0 ⟨by omega, by have := gt.1; omega⟩ h0 (rqs (cj_0 gt (hp.2.2.1 h h0.1 h0.2).1.1))
theorem ld_i (gt : GT N mul inv) (hp : hpsP N H mul S sz) (h0 : 0 ≤ h ∧ h < H) (g0 : 0 ≤ g ∧ g < N) : ld N H mul inv S (ld N H mul inv S h g) (inv g) = h := by
  rw [← ld_m gt hp h0 g0 (GT_i gt g0), (gt.2.2.2.2 g g0.1 g0.2).2.2.1, ld_0 gt hp h0]
theorem ld_j (gt : GT N mul inv) (hp : hpsP N H mul S sz) (h0 : 0 ≤ h ∧ h < H) (g0 : 0 ≤ g ∧ g < N) : ld N H mul inv S (ld N H mul inv S h (inv g)) g = h := by
  rw [← ld_m gt hp h0 (GT_i gt g0) g0, (gt.2.2.2.2 g g0.1 g0.2).2.2.2, ld_0 gt hp h0]
theorem ld_in (gt : GT N mul inv) (hp : hpsP N H mul S sz) (h0 : 0 ≤ h ∧ h < H) (k0 : 0 ≤ k ∧ k < H) (g0 : 0 ≤ g ∧ g < N) (e : ld N H mul inv S h g = ld N H mul inv S k g) : h = k := by
  rw [← ld_i gt hp h0 g0, e, ld_i gt hp k0 g0]
theorem hp_n (hp : hpsP N H mul S sz) : ((H.toNat : Nat) : Int) = H := Int.toNat_of_nonneg (by have := hp.1; omega)
theorem sm_ld (gt : GT N mul inv) (hp : hpsP N H mul S sz) (g0 : 0 ≤ g ∧ g < N) (f : Int → Int) : sm (fun k => f (ld N H mul inv S k g)) H.toNat = sm f H.toNat := by
  have en := hp_n hp
  exact sm_perm (σ := fun k => ld N H mul inv S k g) (fun i i0 i1 => by have := (ld_s gt hp (h := i) ⟨i0, by omega⟩ g0).1; (try dsimp only); omega) (fun i j i0 i1 j0 j1 w => ld_in gt hp ⟨i0, by omega⟩ ⟨j0, by omega⟩ g0 w)
/-- one lies within the other -/
noncomputable def Lq (N : Int) (S : Int → Int → Int) (h k : Int) : Int := bi (sub1 N (S h) (S k))
theorem sub_rq {A A' B B' : Int → Int} (ea : req N A A') (eb : req N B B') (h : sub1 N A B) : sub1 N A' B' := fun t t0 t1 q => by rw [← eb t t0 t1]; exact h t t0 t1 (by rw [ea t t0 t1]; exact q)
theorem sub_iff {A A' B B' : Int → Int} (ea : req N A A') (eb : req N B B') : sub1 N A B ↔ sub1 N A' B' := ⟨sub_rq ea eb, sub_rq (rqs ea) (rqs eb)⟩
theorem Lq_ld (gt : GT N mul inv) (hp : hpsP N H mul S sz) (h0 : 0 ≤ h ∧ h < H) (k0 : 0 ≤ k ∧ k < H) (g0 : 0 ≤ g ∧ g < N) : Lq N S (ld N H mul inv S h g) (ld N H mul inv S k g) = Lq N S h k := by
  have l1 := ld_s gt hp h0 g0
  have l2 := ld_s gt hp k0 g0
  have go : ∀ x h' k', (0 ≤ h' ∧ h' < H) → (0 ≤ k' ∧ k' < H) → (0 ≤ x ∧ x < N) → sub1 N (S h') (S k') → sub1 N (S (ld N H mul inv S h' x)) (S (ld N H mul inv S k' x)) := fun x h' k' a b c w => sub_rq (rqs (ld_s gt hp a c).2) (rqs (ld_s gt hp b c).2) (cj_mono gt w x)
  refine bi_c ⟨fun w => ?_, go g h k h0 k0 g0⟩
  have := go (inv g) _ _ l1.1 l2.1 (GT_i gt g0) w
  rw [ld_i gt hp h0 g0, ld_i gt hp k0 g0] at this
  exact this
theorem ld_sz (gt : GT N mul inv) (hp : hpsP N H mul S sz) (h0 : 0 ≤ h ∧ h < H) (g0 : 0 ≤ g ∧ g < N) : sz (ld N H mul inv S h g) = sz h := by
  have l := ld_s gt hp h0 g0
  have a := hp.2.2.1 h h0.1 h0.2
  rw [(hp.2.2.1 _ l.1.1 l.1.2).2, a.2, rqm l.2, (cj_SM gt a.1 g0).2]
theorem CJ_ld (gt : GT N mul inv) (hp : hpsP N H mul S sz) (h0 : 0 ≤ h ∧ h < H) (k0 : 0 ≤ k ∧ k < H) : CJ N mul inv (S h) (S k) ↔ ∃ g, (0 ≤ g ∧ g < N) ∧ ld N H mul inv S h g = k := by
  constructor
  · rintro ⟨g, g0, g1, e⟩
    exact ⟨g, ⟨g0, g1⟩, ld_e gt hp h0 ⟨g0, g1⟩ k0 e⟩
  · rintro ⟨g, g0, e⟩
    have l := ld_s gt hp h0 g0
    rw [e] at l
    exact ⟨g, g0.1, g0.2, l.2⟩
/-- heaps that lie within others stand ahead of them -/
theorem sub_szl (hp : hpsP N H mul S sz) (hn : 0 ≤ N) (h0 : 0 ≤ h ∧ h < H) (k0 : 0 ≤ k ∧ k < H) (w : sub1 N (S h) (S k)) (ne : h ≠ k) : sz h < sz k := by
  have a := hp.2.2.1 h h0.1 h0.2
  have b := hp.2.2.1 k k0.1 k0.2
  have nr : ¬ req N (S h) (S k) := fun e => ne (hp.2.2.2.2 h k h0.1 h0.2 k0.1 k0.2 e)
  obtain ⟨t, z⟩ := Classical.not_forall.mp nr
  have t0 : 0 ≤ t := Classical.byContradiction (fun r => z (fun a => absurd a r))
  have t1 : t < N := Classical.byContradiction (fun r => z (fun _ a => absurd a r))
  have t2 : S h t ≠ S k t := fun r => z (fun _ _ => r)
  rw [a.2, b.2]
  have le : ∀ i : Int, 0 ≤ i → i < N.toNat → S h i ≤ S k i := fun i i0 i1 => by
    have i1' : i < N := by omega
    rcases a.1.1 i i0 i1' with q | q
    · rcases b.1.1 i i0 i1' with r | r <;> omega
    · rw [w i i0 i1' q]; omega
  refine sm_lt (j := t) le t0 (by omega) ?_
  have := le t t0 (by omega)
  omega
theorem Lq_rf (h : Int) : Lq N S h h = 1 := bi_t (fun _ _ _ q => q)
/-- heaps in order -/
def srtS (N H : Int) (S : Int → Int → Int) : Prop := ∀ a b, 0 ≤ a → a < b → b < H → ahd N (S a) (S b)
theorem srt_sz (hp : hpsP N H mul S sz) (so : srtS N H S) (a0 : 0 ≤ a) (ab : a ≤ b) (b1 : b < H) : sz a ≤ sz b := by
  by_cases q : a = b
  · rw [q]; omega
  · rw [(hp.2.2.1 a a0 (by omega)).2, (hp.2.2.1 b (by omega) b1).2]
    rcases so a b a0 (by omega) b1 with z | z
    · omega
    · have := z.1; omega
theorem Lq_lt (hp : hpsP N H mul S sz) (so : srtS N H S) (hn : 0 ≤ N) (h0 : 0 ≤ h ∧ h < H) (k0 : 0 ≤ k ∧ k < H) (kh : k < h) : Lq N S h k = 0 := by
  refine bi_f (fun w => ?_)
  have a := sub_szl hp hn h0 k0 w (by omega)
  have b := srt_sz hp so k0.1 (show k ≤ h by omega) h0.2
  omega
/-! the classes of heaps -/
def clX (N H C : Int) (mul : Int → Int → Int) (inv : Int → Int) (S : Int → Int → Int) (co fo nu : Int → Int) : Prop := (1 ≤ C ∧ C ≤ H) ∧ (∀ h, 0 ≤ h → h < H → (0 ≤ co h ∧ co h < C) ∧ fo (co h) ≤ h ∧ CJ N mul inv (S (fo (co h))) (S h)) ∧ (∀ c, 0 ≤ c → c < C → (0 ≤ fo c ∧ fo c < H) ∧ co (fo c) = c) ∧ (∀ c e, 0 ≤ c → c < e → e < C → fo c < fo e) ∧ (∀ c e, 0 ≤ c → c < C → 0 ≤ e → e < C → CJ N mul inv (S (fo c)) (S (fo e)) → c = e) ∧ (∀ c, 0 ≤ c → c < C → nu c = sm (fun j => bi (co j = c)) H.toNat)
theorem cl_ld (gt : GT N mul inv) (hp : hpsP N H mul S sz) (cl : clX N H C mul inv S co fo nu) (h0 : 0 ≤ h ∧ h < H) (g0 : 0 ≤ g ∧ g < N) : co (ld N H mul inv S h g) = co h := by
  have l := ld_s gt hp h0 g0
  have a := cl.2.1 h h0.1 h0.2
  have b := cl.2.1 _ l.1.1 l.1.2
  have fa := cl.2.2.1 _ a.1.1 a.1.2
  have fb := cl.2.2.1 _ b.1.1 b.1.2
  have sS := fun k (q : 0 ≤ k ∧ k < H) => (hp.2.2.1 k q.1 q.2).1
  refine cl.2.2.2.2.1 _ _ b.1.1 b.1.2 a.1.1 a.1.2 ?_
  refine CJ_trans gt (sS _ l.1) b.2.2 (CJ_trans gt (sS _ h0) (CJ_symm gt (sS _ h0) (sS _ l.1) ((CJ_ld gt hp h0 l.1).mpr ⟨g, g0, rfl⟩)) (CJ_symm gt (sS _ fa.1) (sS _ h0) a.2.2))
theorem cl_ex (gt : GT N mul inv) (hp : hpsP N H mul S sz) (cl : clX N H C mul inv S co fo nu) (h0 : 0 ≤ h ∧ h < H) (k0 : 0 ≤ k ∧ k < H) (e : co h = co k) : ∃ g, (0 ≤ g ∧ g < N) ∧ ld N H mul inv S h g = k := by
  have a := cl.2.1 h h0.1 h0.2
  have b := cl.2.1 k k0.1 k0.2
  have fa := cl.2.2.1 _ a.1.1 a.1.2
  have sS := fun k (q : 0 ≤ k ∧ k < H) => (hp.2.2.1 k q.1 q.2).1
  have b2 := b.2.2
  rw [← e] at b2
  exact (CJ_ld gt hp h0 k0).mp (CJ_trans gt (sS _ fa.1) (CJ_symm gt (sS _ fa.1) (sS _ h0) a.2.2) b2)
/-- how many turns lead a heap to itself -/
noncomputable def nz (N H : Int) (mul : Int → Int → Int) (inv : Int → Int) (S : Int → Int → Int) (h : Int) : Int := sm (fun g => bi (ld N H mul inv S h g = h)) N.toNat
theorem nz_k (gt : GT N mul inv) (hp : hpsP N H mul S sz) (cl : clX N H C mul inv S co fo nu) (h0 : 0 ≤ h ∧ h < H) (k0 : 0 ≤ k ∧ k < H) : sm (fun g => bi (ld N H mul inv S h g = k)) N.toNat = bi (co k = co h) * nz N H mul inv S h := by
  have en := GT_n gt
  by_cases q : co k = co h
  · obtain ⟨x, x0, ex⟩ := cl_ex gt hp cl h0 k0 q.symm
    rw [bi_t q, Int.one_mul]
    unfold nz
    rw [← sm_mr gt (GT_i gt x0) (fun g => bi (ld N H mul inv S h g = h))]
    refine sm_congr (fun g g0 g1 => bi_c ?_)
    have g0' : 0 ≤ g ∧ g < N := ⟨g0, by omega⟩
    rw [ld_m gt hp h0 g0' (GT_i gt x0)]
    constructor
    · intro e
      rw [e, ← ex]; exact ld_i gt hp h0 x0
    · intro e
      have l := ld_s gt hp h0 g0'
      rw [← ld_j gt hp l.1 x0, e, ex]
  · rw [bi_f q, Int.zero_mul]
    exact sm_zz (fun g g0 g1 => bi_f (fun e => q (by rw [← e]; exact cl_ld gt hp cl h0 ⟨g0, by omega⟩)))
/-- a sum over all turns, of where they lead a heap -/
theorem sm_orb (gt : GT N mul inv) (hp : hpsP N H mul S sz) (cl : clX N H C mul inv S co fo nu) (h0 : 0 ≤ h ∧ h < H) (f : Int → Int) : sm (fun g => f (ld N H mul inv S h g)) N.toNat = nz N H mul inv S h * sm (fun k => bi (co k = co h) * f k) H.toNat := by
  have en := GT_n gt
  have eh := hp_n hp
  rw [sm_fib (c := fun g => ld N H mul inv S h g) (m := H.toNat) (fun g g0 g1 => by have := (ld_s gt hp h0 (g := g) ⟨g0, by omega⟩).1; (try dsimp only); omega), ← sm_cm]
  refine sm_congr (fun k k0 k1 => ?_)
  have z := nz_k gt hp cl h0 (k := k) ⟨k0, by omega⟩
  have e : sm (fun g => bi (ld N H mul inv S h g = k) * f (ld N H mul inv S h g)) N.toNat = sm (fun g => bi (ld N H mul inv S h g = k) * f k) N.toNat := sm_congr (fun g _ _ => by
    (try dsimp only)
    by_cases q : ld N H mul inv S h g = k
    · rw [q]
    · rw [bi_f q, Int.zero_mul, Int.zero_mul])
  (try dsimp only)
  rw [e, sm_mc, z, Int.mul_comm (bi (co k = co h)), Int.mul_assoc]
theorem nz_N (gt : GT N mul inv) (hp : hpsP N H mul S sz) (cl : clX N H C mul inv S co fo nu) (h0 : 0 ≤ h ∧ h < H) : N = nz N H mul inv S h * nu (co h) := by
  have en := GT_n gt
  have z := sm_orb gt hp cl h0 (fun _ => 1)
  rw [sm_k, en, Int.mul_one] at z
  have a := (cl.2.1 h h0.1 h0.2).1
  rw [cl.2.2.2.2.2 _ a.1 a.2]
  refine z.trans (congrArg _ (sm_congr (fun j _ _ => Int.mul_one _)))
/-- those that lead a heap to itself are closed -/
theorem nz_SM (gt : GT N mul inv) (hp : hpsP N H mul S sz) (h0 : 0 ≤ h ∧ h < H) : SM N mul (fun g => bi (ld N H mul inv S h g = h)) := by
  refine ⟨fun _ _ _ => bi_01 _, bi_t (ld_0 gt hp h0), fun s t s0 s1 t0 t1 hs ht => bi_t ?_⟩
  have hs := bi_1.mp hs
  have ht := bi_1.mp ht
  rw [ld_m gt hp h0 ⟨s0, s1⟩ ⟨t0, t1⟩, hs, ht]
theorem nz_own (gt : GT N mul inv) (hp : hpsP N H mul S sz) (h0 : 0 ≤ h ∧ h < H) : sub1 N (S h) (fun g => bi (ld N H mul inv S h g = h)) := by
  intro t t0 t1 q
  have a := hp.2.2.1 h h0.1 h0.2
  refine bi_t ?_
  have l := ld_s gt hp h0 (g := t) ⟨t0, t1⟩
  apply Classical.byContradiction
  intro ne
  have := sub_szl hp (by omega) l.1 h0 (sub_rq (rqs l.2) (fun _ _ _ => rfl) (cj_own gt a.1 ⟨t0, t1⟩ q)) ne
  rw [ld_sz gt hp h0 ⟨t0, t1⟩] at this
  omega
theorem sz_p (gt : GT N mul inv) (hp : hpsP N H mul S sz) (h0 : 0 ≤ h ∧ h < H) : 1 ≤ sz h ∧ sz h ≤ N := by
  have en := GT_n gt
  have N1 := gt.1
  have a := hp.2.2.1 h h0.1 h0.2
  rw [a.2]
  have b := sm_b (f := S h) (n := N.toNat) (fun i i0 i1 => by rcases a.1.1 i i0 (by omega) with z | z <;> omega)
  have c : sm (fun _ => 0) N.toNat < sm (S h) N.toNat := sm_lt (j := 0) (fun i i0 i1 => by rcases a.1.1 i i0 (by omega) with z | z <;> omega) (by omega) (by omega) (by rw [a.1.2.1]; omega)
  rw [sm_zz (fun _ _ _ => rfl)] at c
  omega
theorem nz_dv (gt : GT N mul inv) (hp : hpsP N H mul S sz) (h0 : 0 ≤ h ∧ h < H) : ∃ q : Int, nz N H mul inv S h = q * sz h := by
  have a := hp.2.2.1 h h0.1 h0.2
  obtain ⟨q, e⟩ := lagr gt a.1 (nz_SM gt hp h0) (nz_own gt hp h0)
  exact ⟨q, by rw [a.2]; exact e⟩
theorem nu_p (cl : clX N H C mul inv S co fo nu) (c0 : 0 ≤ c ∧ c < C) : 1 ≤ nu c := by
  have f := cl.2.2.1 c c0.1 c0.2
  rw [cl.2.2.2.2.2 c c0.1 c0.2]
  have l : sm (fun _ => 0) H.toNat < sm (fun j => bi (co j = c)) H.toNat := sm_lt (j := fo c) (fun i _ _ => bi_nn _) f.1.1 (by omega) (by rw [bi_t f.2]; omega)
  rw [sm_zz (fun _ _ _ => rfl)] at l
  omega
/-- in how many of class e the first of class c lies -/
noncomputable def ov (N H : Int) (S : Int → Int → Int) (co fo : Int → Int) (c e : Int) : Int := sm (fun k => bi (co k = e) * Lq N S (fo c) k) H.toNat
/-- how often what leads a heap to itself is more than the heap -/
theorem spare_e (gt : GT N mul inv) (hp : hpsP N H mul S sz) (cl : clX N H C mul inv S co fo nu) (c0 : 0 ≤ c ∧ c < C) : N / (nu c * sz (fo c)) * sz (fo c) = nz N H mul inv S (fo c) := by
  have f := cl.2.2.1 c c0.1 c0.2
  have p := nu_p cl c0
  have s := (sz_p gt hp f.1).1
  have e := nz_N gt hp cl f.1
  rw [f.2] at e
  obtain ⟨q, eq⟩ := nz_dv gt hp f.1
  have : N = q * (nu c * sz (fo c)) := by rw [e, eq, Int.mul_assoc, Int.mul_comm (sz (fo c))]
  have d : N / (nu c * sz (fo c)) = q := by
    rw [this]
    refine Int.mul_ediv_cancel _ ?_
    exact Int.mul_ne_zero (by omega) (by omega)
  rw [d, eq]
/-- the table of marks -/
noncomputable def tbx (N : Int) (mul : Int → Int → Int) (inv : Int → Int) (S : Int → Int → Int) (fo : Int → Int) (c e : Int) : Int := sm (fun g => bi (sub1 N (cj N mul inv (S (fo e)) g) (S (fo c)))) N.toNat / sm (S (fo c)) N.toNat
theorem tb_sm (gt : GT N mul inv) (hp : hpsP N H mul S sz) (cl : clX N H C mul inv S co fo nu) (c0 : 0 ≤ c ∧ c < C) (e0 : 0 ≤ e ∧ e < C) : sm (fun g => bi (sub1 N (cj N mul inv (S (fo e)) g) (S (fo c)))) N.toNat = nz N H mul inv S (fo c) * ov N H S co fo e c := by
  have en := GT_n gt
  have fc := cl.2.2.1 c c0.1 c0.2
  have fe := cl.2.2.1 e e0.1 e0.2
  have z := sm_orb gt hp cl fc.1 (fun k => Lq N S (fo e) k)
  rw [fc.2] at z
  unfold ov
  rw [← z, ← sm_iv gt (fun g => Lq N S (fo e) (ld N H mul inv S (fo c) g))]
  refine sm_congr (fun g g0 g1 => ?_)
  have g0' : 0 ≤ g ∧ g < N := ⟨g0, by omega⟩
  (try dsimp only)
  have l := ld_s gt hp fc.1 (GT_i gt g0')
  rw [← Lq_ld gt hp fe.1 l.1 g0', ld_j gt hp fc.1 g0']
  exact bi_c (sub_iff (rqs (ld_s gt hp fe.1 g0').2) (fun _ _ _ => rfl))
theorem tb_e (gt : GT N mul inv) (hp : hpsP N H mul S sz) (cl : clX N H C mul inv S co fo nu) (c0 : 0 ≤ c ∧ c < C) (e0 : 0 ≤ e ∧ e < C) : tbx N mul inv S fo c e = N / (nu c * sz (fo c)) * ov N H S co fo e c := by
  have fc := cl.2.2.1 c c0.1 c0.2
  unfold tbx
  have s := (sz_p gt hp fc.1).1
  rw [tb_sm gt hp cl c0 e0, ← spare_e gt hp cl c0, ← (hp.2.2.1 _ fc.1.1 fc.1.2).2, Int.mul_assoc, Int.mul_comm (sz (fo c)), ← Int.mul_assoc]
  exact Int.mul_ediv_cancel _ (by omega)
/-- pairs of heaps of two classes, counted from both sides -/
theorem ov_cst (gt : GT N mul inv) (hp : hpsP N H mul S sz) (cl : clX N H C mul inv S co fo nu) (e : Int) (h0 : 0 ≤ h ∧ h < H) (g0 : 0 ≤ g ∧ g < N) : sm (fun k => bi (co k = e) * Lq N S (ld N H mul inv S h g) k) H.toNat = sm (fun k => bi (co k = e) * Lq N S h k) H.toNat := by
  have eh := hp_n hp
  rw [← sm_ld gt hp g0 (fun k => bi (co k = e) * Lq N S (ld N H mul inv S h g) k)]
  refine sm_congr (fun k k0 k1 => ?_)
  (try dsimp only)
  rw [cl_ld gt hp cl ⟨k0, by omega⟩ g0, Lq_ld gt hp h0 ⟨k0, by omega⟩ g0]
theorem ov_cs2 (gt : GT N mul inv) (hp : hpsP N H mul S sz) (cl : clX N H C mul inv S co fo nu) (e : Int) (h0 : 0 ≤ h ∧ h < H) (g0 : 0 ≤ g ∧ g < N) : sm (fun k => bi (co k = e) * Lq N S k (ld N H mul inv S h g)) H.toNat = sm (fun k => bi (co k = e) * Lq N S k h) H.toNat := by
  have eh := hp_n hp
  rw [← sm_ld gt hp g0 (fun k => bi (co k = e) * Lq N S k (ld N H mul inv S h g))]
  refine sm_congr (fun k k0 k1 => ?_)
  (try dsimp only)
  rw [cl_ld gt hp cl ⟨k0, by omega⟩ g0, Lq_ld gt hp ⟨k0, by omega⟩ h0 g0]
theorem bel_e (gt : GT N mul inv) (hp : hpsP N H mul S sz) (cl : clX N H C mul inv S co fo nu) (c0 : 0 ≤ c ∧ c < C) (e0 : 0 ≤ e ∧ e < C) : ov N H S co fo e c * nu e = sm (fun k => bi (co k = e) * Lq N S k (fo c)) H.toNat * nu c := by
  have eh := hp_n hp
  have fc := cl.2.2.1 c c0.1 c0.2
  have fe := cl.2.2.1 e e0.1 e0.2
  have z := sm_swap (fun k h => bi (co k = e) * (bi (co h = c) * Lq N S k h)) H.toNat H.toNat
  have l : sm (fun k => sm (fun h => bi (co k = e) * (bi (co h = c) * Lq N S k h)) H.toNat) H.toNat = nu e * ov N H S co fo e c := by
    rw [cl.2.2.2.2.2 e e0.1 e0.2, ← sm_mc]
    refine sm_congr (fun k k0 k1 => ?_)
    (try dsimp only)
    rw [sm_cm]
    by_cases q : co k = e
    · obtain ⟨x, x0, ex⟩ := cl_ex gt hp cl fe.1 (k := k) ⟨k0, by omega⟩ (by rw [fe.2, q])
      rw [← ex, ov_cst gt hp cl c fe.1 x0]
      rfl
    · rw [bi_f q, Int.zero_mul, Int.zero_mul]
  have r : sm (fun h => sm (fun k => bi (co k = e) * (bi (co h = c) * Lq N S k h)) H.toNat) H.toNat = nu c * sm (fun k => bi (co k = e) * Lq N S k (fo c)) H.toNat := by
    rw [cl.2.2.2.2.2 c c0.1 c0.2, ← sm_mc]
    refine sm_congr (fun h h0 h1 => ?_)
    (try dsimp only)
    have e1 : sm (fun k => bi (co k = e) * (bi (co h = c) * Lq N S k h)) H.toNat = bi (co h = c) * sm (fun k => bi (co k = e) * Lq N S k h) H.toNat := by
      rw [← sm_cm]
      exact sm_congr (fun k _ _ => by (try dsimp only); rw [← Int.mul_assoc, Int.mul_comm (bi (co k = e)), Int.mul_assoc])
    rw [e1]
    by_cases q : co h = c
    · obtain ⟨x, x0, ex⟩ := cl_ex gt hp cl fc.1 (k := h) ⟨h0, by omega⟩ (by rw [fc.2, q])
      rw [← ex, ov_cs2 gt hp cl e fc.1 x0]
    · rw [bi_f q, Int.zero_mul, Int.zero_mul]
  rw [l, r] at z
  rw [Int.mul_comm, z, Int.mul_comm]
theorem below_e (gt : GT N mul inv) (hp : hpsP N H mul S sz) (cl : clX N H C mul inv S co fo nu) (c0 : 0 ≤ c ∧ c < C) (e0 : 0 ≤ e ∧ e < C) : ov N H S co fo e c * nu e / nu c = sm (fun k => bi (co k = e) * Lq N S k (fo c)) H.toNat := by
  rw [bel_e gt hp cl c0 e0]
  exact Int.mul_ediv_cancel _ (by have := nu_p cl c0; omega)
end
