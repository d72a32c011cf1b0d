section
variable {d : Nat} {G : List gS} {R V : gV} {M : Nat}
def fhF (V0 V : gV) (M : Nat) : Prop := ∀ a i, a ≠ M + 9 → a ≠ M + 10 → a ≠ M + 11 → a ≠ M + 12 → a ≠ M + 19 → ¬ (a = M ∧ i = 12) → V a i = V0 a i
/-- all heaps of the group are there -/
def hpsP (N H : Int) (mul : Int → Int → Int) (S : Int → Int → Int) (sz : Int → Int) : Prop := 1 ≤ H ∧ H ≤ 300 ∧ (∀ k, 0 ≤ k → k < H → SM N mul (S k) ∧ sz k = sm (S k) N.toNat) ∧ (∀ T, SM N mul T → ∃ k, 0 ≤ k ∧ k < H ∧ req N (S k) T) ∧ (∀ i j, 0 ≤ i → i < H → 0 ≤ j → j < H → req N (S i) (S j) → i = j)
theorem dst_eq {N H : Int} {S : Int → Int → Int} (h : ∀ i j, 0 ≤ i → i < j → j < H → ¬ req N (S i) (S j)) : ∀ i j, 0 ≤ i → i < H → 0 ≤ j → j < H → req N (S i) (S j) → i = j := by
  intro i j i0 i1 j0 j1 e
  rcases Int.lt_trichotomy i j with z | z | z
  · exact absurd e (h i j i0 z j1)
  · exact z
  · exact absurd (fun t t0 t1 => (e t t0 t1).symm) (h j i j0 z i1)
def fhP (V0 V : gV) (M : Nat) (v : Int) : Prop := fhF V0 V M ∧ ((v = 1 ∧ hpsP (V0 M 5) (V M 12) (mMul V0 M) (mHas V M) (fun k => V (M + 10) k) ∧ ¬ tooMany (V0 M 5) (mMul V0 M)) ∨ (v = 0 ∧ tooMany (V0 M 5) (mMul V0 M)))
abbrev mFI (V0 V : gV) (M : Nat) : Prop := fhI (V0 M 5) (V M 12) (mMul V0 M) (mHas V M) (fun k => V (M + 10) k) (fun k => V (M + 12) k) (mMkr V M)
abbrev mFD (V0 V : gV) (M : Nat) (h t : Int) : Prop := ∀ h' t', 0 ≤ h' → h' < V M 12 → 0 ≤ t' → t' < V0 M 5 → (h' < h ∨ (h' = h ∧ t' < t)) → fdn (V0 M 5) (V M 12) (mMul V0 M) (mHas V M) h' t'
/-- at most 300 closed sets -/
theorem notMany {N H : Int} {mul : Int → Int → Int} {inv : Int → Int} (g : GT N mul inv) {S : Int → Int → Int} {sz : Int → Int} (h : hpsP N H mul S sz) : ¬ tooMany N mul := by
  rintro ⟨F, f1, f2⟩
  have hx : ∀ i, ∃ k, (0 ≤ i → i ≤ 300 → 0 ≤ k ∧ k < H ∧ req N (S k) (F i)) := by
    intro i
    by_cases q : 0 ≤ i ∧ i ≤ 300
    · obtain ⟨k, k0, k1, k2⟩ := h.2.2.2.1 (F i) (f1 i q.1 q.2)
      exact ⟨k, fun _ _ => ⟨k0, k1, k2⟩⟩
    · exact ⟨0, fun a b => absurd ⟨a, b⟩ q⟩
  let φ : Int → Int := fun i => Classical.choose (hx i)
  have hφ : ∀ i, 0 ≤ i → i ≤ 300 → 0 ≤ φ i ∧ φ i < H ∧ req N (S (φ i)) (F i) := fun i a b => Classical.choose_spec (hx i) a b
  have le := sm_inj (a := fun _ => 1) (c := fun i => if i < 300 then 1 else 0) (φ := φ) (n := 301) (fun _ _ _ => Or.inr rfl) (fun i _ _ => by split <;> omega) (fun i i0 i1 _ => ?_) (fun i j i0 i1 j0 j1 _ _ e => ?_)
  · have e1 : sm (fun _ => 1) 301 = 301 := by decide +kernel
    have e2 : sm (fun i => if i < 300 then 1 else 0) 301 = 300 := by decide +kernel
    omega
  · have := hφ i i0 (by omega)
    have h2 := h.2.1
    exact ⟨this.1, by omega, by rw [if_pos (by omega)]⟩
  · have a := (hφ i i0 (by omega)).2.2
    have b := (hφ j j0 (by omega)).2.2
    rw [e] at a
    rcases Int.lt_trichotomy i j with z | z | z
    · exact absurd (fun t t0 t1 => by rw [← a t t0 t1, ← b t t0 t1]) (f2 i j i0 z (by omega))
    · exact z
    · exact absurd (fun t t0 t1 => by rw [← a t t0 t1, ← b t t0 t1]) (f2 j i j0 z (by omega))
theorem fdn_self {N H : Int} {mul : Int → Int → Int} {S : Int → Int → Int} {h t : Int} (hh : 0 ≤ h ∧ h < H) (e : S h t = 1) : fdn N H mul S h t := ⟨h, hh.1, hh.2, fun _ _ _ q => q, e, fun _ _ a _ => a⟩
theorem finds_c (ly : lay8 G R M) (g : GT (V M 5) (mMul V M) (mInv V M)) (hN : V M 5 ≤ 120) : cwv 3 (fun r V' => ∃ v, r = some (0, v) ∧ fhP V V' M v) 173 [(4, (M : Int))] G R V := by
  have N1 := g.1
  refine c_X8_findsHeaps (t_X8_findsHeaps_0 ly ?_)
  generalize hV0 : V = V0 at g hN N1 ⊢
  have mulE : ∀ {V : gV}, (∀ i, V (M + 5) i = V0 (M + 5) i) → mMul V M = mMul V0 M := fun h => funext (fun s => funext (fun t => h _))
  have invE : ∀ {V : gV}, (∀ i, V (M + 6) i = V0 (M + 6) i) → mInv V M = mInv V0 M := fun h => funext (fun s => h _)
  -- the loops
  have main : ∀ h V, (0 ≤ h ∧ h ≤ V M 12 ∧ fhF V0 V M ∧ mFI V0 V M ∧ mFD V0 V M h 0) → wpv K_X8_findsHeaps 2 (fun r V' => ∃ v, r = some (0, v) ∧ fhP V0 V' M v) 24 [some (4, (M : Int)), some (0, h)] [] G R V := by
    refine loop1 (f := fun x => [some (4, (M : Int)), some (0, x)]) _ (fun x _ => (301 - x).toNat) (fun h V hx ih => ?_)
    obtain ⟨h0, h1, fr, fi, fd⟩ := hx
    have H3 := fi.2.1
    refine t_X8_findsHeaps_24 ly (fun _ => ⟨by omega, fun c => ⟨1, rfl, fr, Or.inl ⟨rfl, ?_, ?_⟩⟩, fun c => ?_⟩)
    · exact ⟨fi.1, fi.2.1, fun k k0 k1 => ⟨(fi.2.2.1 k k0 k1).2.2.2.1.1, (fi.2.2.1 k k0 k1).2.2.2.2.1⟩, fun T hT => fh_all g fi (fun h' t' a0 a1 b0 b1 => fd h' t' a0 a1 b0 b1 (by omega)) hT, dst_eq fi.2.2.2.1⟩
    · exact notMany (S := mHas V M) (sz := fun k => V (M + 10) k) g ⟨fi.1, fi.2.1, fun k k0 k1 => ⟨(fi.2.2.1 k k0 k1).2.2.2.1.1, (fi.2.2.1 k k0 k1).2.2.2.2.1⟩, fun T hT => fh_all g fi (fun h' t' a0 a1 b0 b1 => fd h' t' a0 a1 b0 b1 (by omega)) hT, dst_eq fi.2.2.2.1⟩
    refine loop1 (f := fun x => [some (4, (M : Int)), some (0, h), some (0, x)]) (fun t V => 1 ≤ t ∧ t ≤ V0 M 5 ∧ h < V M 12 ∧ fhF V0 V M ∧ mFI V0 V M ∧ mFD V0 V M h t) (fun t _ => (V0 M 5 - t).toNat) (fun t V hx ih2 => ?_) 1 V ⟨by omega, by omega, c, fr, fi, fun h' t' a0 a1 b0 b1 q => ?_⟩
    · clear fr fi fd c h1 H3
      obtain ⟨t0, t1, c, fr, fi, fd⟩ := hx
      have H3 := fi.2.1
      have e5 : V M 5 = V0 M 5 := fr _ _ (by omega) (by omega) (by omega) (by omega) (by omega) (by omega)
      refine t_X8_findsHeaps_34 ly (fun _ => ⟨by omega, fun c2 => ⟨by omega, ih (h + 1) V ⟨by omega, by omega, fr, fi, fun h' t' a0 a1 b0 b1 q => fd h' t' a0 a1 b0 b1 (by omega)⟩ (by omega)⟩, fun c2 => ⟨by omega, by omega, by omega, fun bt => ⟨fun z => ?_, fun z => ⟨by omega, ih2 (t + 1) V ⟨by omega, by omega, c, fr, fi, fun h' t' a0 a1 b0 b1 q => ?_⟩ (by omega)⟩⟩⟩⟩)
      · rw [e5] at c2
        clear e5 bt
        refine loop1 (f := fun x => [some (4, (M : Int)), some (0, h), some (0, t), some (0, x)]) (fun m V => 0 ≤ m ∧ m ≤ V (M + 12) h ∧ h < V M 12 ∧ V (M + 9) (120 * h + t) = 0 ∧ fhF V0 V M ∧ mFI V0 V M ∧ mFD V0 V M h t ∧ ∀ m', 0 ≤ m' → m' < m → V (M + 11) (7 * V M 12 + m') = V (M + 11) (7 * h + m')) (fun m V => (7 - m).toNat) (fun m V hx ih3 => ?_) 0 V ⟨by omega, (fi.2.2.1 h h0 c).1, c, z, fr, fi, fd, fun m' a b => by omega⟩
        clear fr fi fd c z H3
        obtain ⟨m0, m1, c, z, fr, fi, fd, mc⟩ := hx
        have H3 := fi.2.1
        have H1 := fi.1
        have mk6 : V (M + 12) h ≤ 6 := (fi.2.2.1 h h0 c).2.1
        refine t_X8_findsHeaps_61 ly ?_
        have fi' : fhI (V0 M 5) (V M 12) (mMul V0 M) (mHas V M) (fun k => V (M + 10) k) (fun k => V (M + 12) k) (mMkr V M) := fi
        have fd' : ∀ h' t', 0 ≤ h' → h' < V M 12 → 0 ≤ t' → t' < V0 M 5 → (h' < h ∨ (h' = h ∧ t' < t)) → fdn (V0 M 5) (V M 12) (mMul V0 M) (mHas V M) h' t' := fd
        clear fi fd
        generalize hH : V M 12 = H at *
        have fi := fi'
        have fd := fd'
        refine ⟨by omega, fun _ => ⟨by omega, fun c3 _ => ⟨by omega, by omega, by omega, by omega, by omega, by omega, ?_⟩, fun c3 _ => ⟨by omega, by omega, by omega, by omega, by omega, fun _ => ⟨by omega, by omega, ih3 (m + 1) _ ⟨by omega, ?_, ?_, ?_, fun a i b1 b2 b3 b4 b5 b6 => ?_, ?_, ?_, fun m' a0 a1 => ?_⟩ (by omega)⟩⟩⟩⟩
        · -- the new heap
          have em : V (M + 12) h = m := by omega
          generalize hVc : wr (wr V (M + 11) (7 * H + V (M + 12) h) t) (M + 12) H (V (M + 12) h + 1) = Vc
          have vc : ∀ a i, a ≠ M + 11 → a ≠ M + 12 → Vc a i = V a i := fun a i b1 b2 => by rw [← hVc, wr_a b2, wr_a b1]
          have vc12 : Vc (M + 12) H = m + 1 := by rw [← hVc, wr_same, em]
          have vc12' : ∀ k, k ≠ H → Vc (M + 12) k = V (M + 12) k := fun k q => by rw [← hVc, wr_i q, wr_a (by omega)]
          have vc11 : Vc (M + 11) (7 * H + m) = t := by rw [← hVc, wr_a (by omega), em, wr_same]
          have vc11' : ∀ i, i ≠ 7 * H + m → Vc (M + 11) i = V (M + 11) i := fun i q => by rw [← hVc, wr_a (by omega), em, wr_i q]
          have frc : fhF V0 Vc M := fun a i b1 b2 b3 b4 b5 b6 => by rw [vc a i b3 b4]; exact fr a i b1 b2 b3 b4 b5 b6
          have c5 : Vc M 5 = V0 M 5 := frc _ _ (by omega) (by omega) (by omega) (by omega) (by omega) (by omega)
          have cm : mMul Vc M = mMul V0 M := mulE (fun i => frc _ _ (by omega) (by omega) (by omega) (by omega) (by omega) (by omega))
          have ci : mInv Vc M = mInv V0 M := invE (fun i => frc _ _ (by omega) (by omega) (by omega) (by omega) (by omega) (by omega))
          have hmk : ∀ m', 0 ≤ m' → m' < m → Vc (M + 11) (7 * H + m') = V (M + 11) (7 * h + m') := fun m' a0 a1 => by rw [vc11' _ (by omega)]; exact mc m' a0 a1
          have hph := fi.2.2.1 h h0 c
          have mkb : 0 ≤ m ∧ m ≤ 6 := by omega
          have cc := closes_c (V := Vc) ly (h := H) (by rw [c5, cm, ci]; exact g) (by omega) (by omega) (by omega) (fun m' a0 a1 => by
            rw [vc12] at a1
            rw [c5]
            by_cases q : m' = m
            · rw [q, vc11]; omega
            · rw [hmk m' a0 (by omega)]; exact hph.2.2.1 m' a0 (by dsimp only; omega))
          refine cw0_u (Nat.le_add_right 1 1) cc (fun V17 hp => ?_)
          obtain ⟨cf, cS, cz⟩ := hp
          rw [c5, vc12, cm] at cS
          rw [c5] at cz
          have f17 : ∀ a i, a ≠ M + 9 → a ≠ M + 10 → a ≠ M + 19 → V17 a i = Vc a i := fun a i b1 b2 b3 => cf a i (fun q => b1 q.1) b3 (fun q => b2 q.1)
          have fr7 : fhF V0 V17 M := fun a i b1 b2 b3 b4 b5 b6 => by rw [f17 a i b1 b2 b5]; exact frc a i b1 b2 b3 b4 b5 b6
          have H17 : V17 M 12 = H := by rw [f17 _ _ (by omega) (by omega) (by omega), vc _ _ (by omega) (by omega)]; exact hH
          have s17 : ∀ k t', 0 ≤ k → k < H → 0 ≤ t' → t' < V0 M 5 → V17 (M + 9) (120 * k + t') = V (M + 9) (120 * k + t') := fun k t' a0 a1 b0 b1 => by
            rw [cf _ _ (by omega) (by omega) (by omega), vc _ _ (by omega) (by omega)]
          have z17 : ∀ k, 0 ≤ k → k < H → V17 (M + 10) k = V (M + 10) k := fun k a0 a1 => by
            rw [cf _ _ (by omega) (by omega) (by omega), vc _ _ (by omega) (by omega)]
          have k17 : ∀ k, V17 (M + 12) k = Vc (M + 12) k := fun k => f17 _ _ (by omega) (by omega) (by omega)
          have r17 : ∀ i, V17 (M + 11) i = Vc (M + 11) i := fun i => f17 _ _ (by omega) (by omega) (by omega)
          have N17 : V17 M 5 = V0 M 5 := fr7 _ _ (by omega) (by omega) (by omega) (by omega) (by omega) (by omega)
          have fi7 : fhI (V0 M 5) H (mMul V0 M) (mHas V17 M) (fun k => V17 (M + 10) k) (fun k => V17 (M + 12) k) (mMkr V17 M) := by
            refine fhI_congr g (fun k a0 a1 t' b0 b1 => (s17 k t' a0 a1 b0 b1).symm) (fun k a0 a1 => (z17 k a0 a1).symm) (fun k a0 a1 => ?_) (fun k m' a0 a1 b0 b1 => ?_) fi
            · show V (M + 12) k = V17 (M + 12) k
              rw [k17, vc12' k (by omega)]
            · show V (M + 11) (7 * k + m') = V17 (M + 11) (7 * k + m')
              rw [r17, vc11' _ (by omega)]
          have e17 : ∀ k, 0 ≤ k → k < H → req (V0 M 5) (mHas V M k) (mHas V17 M k) := fun k a0 a1 t' b0 b1 => (s17 k t' a0 a1 b0 b1).symm
          -- what the new set is
          have hph7 := fi7.2.2.1 h h0 c
          have nw := fh_new (sz := V17 (M + 10) h) (mk := m) (T := mHas V17 M H) (mr' := mMkr Vc M H) g hN (S := mHas V17 M h) (mr := mMkr V17 M h) (t := t) (by
            have : (fun k => V17 (M + 12) k) h = m := by show V17 (M + 12) h = m; rw [k17, vc12' h (by omega)]; exact em
            rw [this] at hph7; exact hph7) (by omega) (by show V17 (M + 9) (120 * h + t) = 0; rw [s17 h t h0 c (by omega) c2]; exact z) (fun m' a0 a1 => by
            show Vc (M + 11) (7 * H + m') = V17 (M + 11) (7 * h + m')
            rw [hmk m' a0 a1, r17, vc11' _ (by omega)]) vc11 cS
          obtain ⟨n1, n2, n3, n4⟩ := nw
          have zH : V17 (M + 10) H = sm (mHas V17 M H) (V0 M 5).toNat := cz
          refine fun _ => ?_
          rw [H17]
          refine cwI_u (Nat.le_refl _) (among_c ly (h := H) (n := H) (by omega) (by omega) (by omega)) (fun v V20 hv => ?_)
          obtain ⟨ev, hv⟩ := hv
          subst ev
          refine ⟨by omega, fun q => fun _ => ⟨fun q2 => ⟨by omega, by omega, ?_⟩, fun q2 => ?_⟩, fun q => ⟨by omega, ?_⟩⟩
          · -- kept
            have nal : ∀ k, 0 ≤ k → k < H → ¬ alk V20 M k H := by
              rcases hv with hv | hv
              · exact hv.2
              · omega
            have w : ∀ a i, ¬ (a = M ∧ i = 12) → wr V20 M 12 (V20 M 12 + 1) a i = V20 a i := fun a i b => wr_ne b
            have wH : wr V20 M 12 (V20 M 12 + 1) M 12 = H + 1 := by rw [wr_same, H17]
            have wS : mHas (wr V20 M 12 (V20 M 12 + 1)) M = mHas V20 M := funext (fun k => funext (fun t' => w _ _ (by omega)))
            have fi8 : fhI (V0 M 5) (H + 1) (mMul V0 M) (mHas V20 M) (fun k => V20 (M + 10) k) (fun k => V20 (M + 12) k) (mMkr V20 M) := by
              refine ⟨by omega, by omega, fun k a0 a1 => ?_, fun i j a0 a1 a2 => ?_, fi7.2.2.2.2⟩
              · by_cases e : k = H
                · rw [e]
                  refine hpI_congr g (fun _ _ _ => rfl) zH.symm ?_ (fun m' b0 b1 => ?_) n1
                  · show m + 1 = V20 (M + 12) H
                    rw [k17, vc12]
                  · show Vc (M + 11) (7 * H + m') = V20 (M + 11) (7 * H + m')
                    rw [r17]
                · exact fi7.2.2.1 k a0 (by omega)
              · by_cases e : j = H
                · intro w2
                  rw [e] at w2
                  refine nal i a0 (by omega) ⟨?_, ?_⟩
                  · rw [zH]
                    have := (fi7.2.2.1 i a0 (by omega)).2.2.2.2.1
                    dsimp only at this
                    rw [this]
                    exact sm_congr (fun t' b0 b1 => w2 t' b0 (by omega))
                  · rw [N17]; exact w2
                · exact fi7.2.2.2.1 i j a0 a1 (by omega)
            refine ih2 (t + 1) _ ⟨by omega, by omega, by rw [wH]; omega, fun a i b1 b2 b3 b4 b5 b6 => ?_, ?_, fun h' t' a0 a1 b0 b1 q3 => ?_⟩ (by omega)
            · rw [w a i b6]; exact fr7 a i b1 b2 b3 b4 b5 b6
            · show fhI (V0 M 5) _ (mMul V0 M) _ _ _ _
              rw [wH, wS]
              exact fhI_congr g (fun _ _ _ _ _ _ => rfl) (fun k _ _ => (w _ _ (by omega)).symm) (fun k _ _ => (w _ _ (by omega)).symm) (fun k m' _ _ _ _ => (w _ _ (by omega)).symm) fi8
            · rw [wH] at a1 ⊢
              rw [wS]
              by_cases e : h' = h ∧ t' = t
              · rw [e.1, e.2]
                exact ⟨H, by omega, by omega, n2, n3, n4⟩
              · exact fdn_congr e17 ⟨a0, by omega⟩ ⟨b0, b1⟩ (by omega) (fd h' t' a0 (by omega) b0 b1 (by omega))
          · -- too many
            have h3 : H = 300 := by omega
            have nal : ∀ k, 0 ≤ k → k < H → ¬ alk V20 M k H := by
              rcases hv with hv | hv
              · exact hv.2
              · omega
            refine ⟨0, rfl, fr7, Or.inr ⟨rfl, mHas V20 M, fun i a0 a1 => ?_, fun i j a0 a1 a2 => ?_⟩⟩
            · by_cases e : i = H
              · rw [e]; exact n1.2.2.2.1.1
              · exact (fi7.2.2.1 i a0 (by omega)).2.2.2.1.1
            · by_cases e : j = H
              · intro w2
                rw [e] at w2
                refine nal i a0 (by omega) ⟨?_, ?_⟩
                · rw [zH]
                  have := (fi7.2.2.1 i a0 (by omega)).2.2.2.2.1
                  dsimp only at this
                  rw [this]
                  exact sm_congr (fun t' b0 b1 => w2 t' b0 (by omega))
                · rw [N17]; exact w2
              · exact fi7.2.2.2.1 i j a0 a1 (by omega)
          · -- known
            rcases hv with hv | ⟨v0, v1, v2⟩
            · exact absurd hv.1 q
            have v3 : req (V0 M 5) (mHas V20 M v) (mHas V20 M H) := by have := v2.2; rw [N17] at this; exact this
            refine ih2 (t + 1) V20 ⟨by omega, by omega, by omega, fr7, by show fhI (V0 M 5) (V20 M 12) _ _ _ _ _; rw [H17]; exact fi7, fun h' t' a0 a1 b0 b1 q3 => ?_⟩ (by omega)
            rw [H17] at a1 ⊢
            by_cases e : h' = h ∧ t' = t
            · rw [e.1, e.2]
              refine ⟨v, v0, v1, fun u u0 u1 u2 => ?_, ?_, fun U hU a b u u0 u1 u2 => ?_⟩
              · rw [v3 u u0 u1]; exact n2 u u0 u1 u2
              · rw [v3 t (by omega) c2]; exact n3
              · exact n4 U hU a b u u0 u1 (by rw [← v3 u u0 u1]; exact u2)
            · exact fdn_congr e17 ⟨a0, by omega⟩ ⟨b0, b1⟩ (Int.le_refl _) (fd h' t' a0 (by omega) b0 b1 (by omega))
        · rw [wr_a (by omega)]; omega
        · rw [wr_a (by omega), hH]; exact c
        · rw [wr_a (by omega)]; exact z
        · rw [wr_a b3]; exact fr a i b1 b2 b3 b4 b5 b6
        · have wH : wr V (M + 11) (7 * H + m) (V (M + 11) (7 * h + m)) M 12 = H := by rw [wr_a (by omega)]; exact hH
          show fhI (V0 M 5) _ (mMul V0 M) _ _ _ _
          rw [wH]
          refine fhI_congr g (fun k a0 a1 t' b0 b1 => ?_) (fun k _ _ => ?_) (fun k _ _ => ?_) (fun k m' a0 a1 b0 b1 => ?_) fi
          · exact (wr_a (by omega)).symm
          · exact (wr_a (by omega)).symm
          · exact (wr_a (by omega)).symm
          · exact (wr_i (by omega)).symm
        · have wH : wr V (M + 11) (7 * H + m) (V (M + 11) (7 * h + m)) M 12 = H := by rw [wr_a (by omega)]; exact hH
          intro h' t' a0 a1 b0 b1 q
          rw [wH] at a1 ⊢
          refine fdn_congr (S := mHas V M) (fun k _ _ u _ _ => ?_) ⟨a0, a1⟩ ⟨b0, b1⟩ (Int.le_refl _) (fd h' t' a0 a1 b0 b1 q)
          exact (wr_a (by omega)).symm
        · have wH : wr V (M + 11) (7 * H + m) (V (M + 11) (7 * h + m)) M 12 = H := by rw [wr_a (by omega)]; exact hH
          rw [wH]
          by_cases e : m' = m
          · rw [e, wr_same, wr_i (by omega)]
          · rw [wr_i (by omega), wr_i (by omega)]; exact mc m' a0 (by omega)
      · by_cases e : h' = h ∧ t' = t
        · rw [e.1, e.2]
          refine fdn_self ⟨h0, c⟩ ?_
          rcases bt with w | w
          · exact absurd w z
          · exact w
        · exact fd h' t' a0 a1 b0 b1 (by omega)
    · by_cases e : h' = h
      · rw [e]
        have : t' = 0 := by omega
        rw [this]
        exact fdn_self ⟨h0, c⟩ (fi.2.2.1 h h0 c).2.2.2.1.1.2.1
      · exact fd h' t' a0 a1 b0 b1 (by omega)
  -- the start
  generalize hVa : wr (wr V0 M 12 0) (M + 12) 0 0 = Va
  have va : ∀ a i, a ≠ M + 12 → ¬ (a = M ∧ i = 12) → Va a i = V0 a i := fun a i b1 b2 => by rw [← hVa, wr_a b1, wr_ne b2]
  have va12 : Va (M + 12) 0 = 0 := by rw [← hVa, wr_same]
  have a5 : Va M 5 = V0 M 5 := va _ _ (by omega) (by omega)
  have am : mMul Va M = mMul V0 M := mulE (fun i => va _ _ (by omega) (by omega))
  have ai : mInv Va M = mInv V0 M := invE (fun i => va _ _ (by omega) (by omega))
  refine cw0_u (Nat.le_add_right 1 1) (closes_c (V := Va) ly (h := 0) (by rw [a5, am, ai]; exact g) (by omega) (by omega) (by omega) (fun m m0 m1 => by omega)) (fun V1 hp => ?_)
  obtain ⟨cf, cS, cz⟩ := hp
  rw [a5, va12, am] at cS
  rw [a5] at cz
  have w : ∀ a i, ¬ (a = M ∧ i = 12) → wr V1 M 12 1 a i = V1 a i := fun a i b => wr_ne b
  have wH : wr V1 M 12 1 M 12 = 1 := wr_same V1 M 12 1
  have wS : mHas (wr V1 M 12 1) M = mHas V1 M := funext (fun k => funext (fun t' => w _ _ (by omega)))
  have k1 : V1 (M + 12) 0 = 0 := by rw [cf _ _ (by omega) (by omega) (by omega)]; exact va12
  refine main 0 _ ⟨by omega, by rw [wH]; omega, fun a i b1 b2 b3 b4 b5 b6 => ?_, ?_, fun h' t' a0 a1 b0 b1 q => by omega⟩
  · rw [w a i b6, cf a i (fun q => b1 q.1) b5 (fun q => b2 q.1), va a i b4 b6]
  · show fhI (V0 M 5) _ (mMul V0 M) _ _ _ _
    rw [wH, wS]
    refine ⟨by omega, by omega, fun k a0 a1 => ?_, fun i j a0 a1 a2 => by omega, fun T hT => cS.2.2 T hT (fun m m0 m1 => by omega)⟩
    have e : k = 0 := by omega
    subst e
    refine ⟨?_, ?_, fun m m0 m1 => ?_, ⟨cS.1, fun m m0 m1 => ?_, fun T hT _ => cS.2.2 T hT (fun m m0 m1 => by omega)⟩, ?_, ?_⟩
    · show 0 ≤ wr V1 M 12 1 (M + 12) 0
      rw [w _ _ (by omega), k1]; omega
    · show wr V1 M 12 1 (M + 12) 0 ≤ 6
      rw [w _ _ (by omega), k1]; omega
    · have m1 : m < wr V1 M 12 1 (M + 12) 0 := m1
      rw [w _ _ (by omega), k1] at m1; omega
    · have m1 : m < wr V1 M 12 1 (M + 12) 0 := m1
      rw [w _ _ (by omega), k1] at m1; omega
    · show wr V1 M 12 1 (M + 10) 0 = _
      rw [w _ _ (by omega)]; exact cz
    · show (2 : Int) ^ (wr V1 M 12 1 (M + 12) 0).toNat ≤ _
      rw [w _ _ (by omega), k1]
      have en : (((V0 M 5).toNat : Nat) : Int) = V0 M 5 := Int.toNat_of_nonneg (by omega)
      have : sm (fun _ => 0) (V0 M 5).toNat < sm (mHas V1 M 0) (V0 M 5).toNat := by
        refine sm_lt (j := 0) (fun i i0 i1 => ?_) (by omega) (by omega) ?_
        · rcases cS.1.1 i i0 (by omega) with q | q <;> omega
        · have := cS.1.2.1
          omega
      have z := (sm_b (f := fun _ => 0) (n := (V0 M 5).toNat) (fun i _ _ => ⟨by omega, by omega⟩)).1
      show (1 : Int) ≤ _
      omega
end
