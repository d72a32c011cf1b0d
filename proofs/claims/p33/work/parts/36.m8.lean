/-! closing a set of turns -/
def clI (N mk n k m : Int) (S l mr : Int → Int) (mul : Int → Int → Int) : Prop := 1 ≤ n ∧ n ≤ N ∧ l 0 = 0 ∧ (∀ j, 0 ≤ j → j < n → 0 ≤ l j ∧ l j < N ∧ S (l j) = 1) ∧ (∀ t, 0 ≤ t → t < N → S t = 0 ∨ S t = 1) ∧ (∀ t, 0 ≤ t → t < N → S t = 1 → ∃ j, 0 ≤ j ∧ j < n ∧ l j = t) ∧ sm S N.toNat = n ∧ (∀ j, 0 < j → j < n → ∃ i u, 0 ≤ i ∧ i < j ∧ 0 ≤ u ∧ u < mk ∧ l j = mul (l i) (mr u)) ∧ (∀ k' m', 0 ≤ k' → k' < n → 0 ≤ m' → m' < mk → (k' < k ∨ (k' = k ∧ m' < m)) → S (mul (l k') (mr m')) = 1)
theorem cl_lt {N mk n k m t : Int} {S l mr : Int → Int} {mul : Int → Int → Int} (c : clI N mk n k m S l mr mul) (t0 : 0 ≤ t ∧ t < N) (hs : S t = 0) : n < N := by
  obtain ⟨c1, c2, c3, c4, c5, c6, c7, c8, c9⟩ := c
  have en : ((N.toNat : Nat) : Int) = N := Int.toNat_of_nonneg (by omega)
  have : sm S N.toNat < sm (fun _ => 1) N.toNat := sm_lt (j := t) (fun i h0 h1 => by rcases c5 i h0 (by omega) with z | z <;> omega) t0.1 (by omega) (by omega)
  have := (sm_b (f := fun _ => 1) (n := N.toNat) (fun i _ _ => ⟨by omega, by omega⟩)).2
  omega
theorem cl_add {N mk n k m t : Int} {S l mr : Int → Int} {mul : Int → Int → Int} (c : clI N mk n k m S l mr mul) (k0 : 0 ≤ k ∧ k < n) (m0 : 0 ≤ m ∧ m < mk) (t0 : 0 ≤ t ∧ t < N) (e : t = mul (l k) (mr m)) (hs : S t = 0) : clI N mk (n + 1) k (m + 1) (up1 S t 1) (up1 l n t) mr mul := by
  have lt := cl_lt c t0 hs
  obtain ⟨c1, c2, c3, c4, c5, c6, c7, c8, c9⟩ := c
  have en : ((N.toNat : Nat) : Int) = N := Int.toNat_of_nonneg (by omega)
  have lo : ∀ j, j < n → up1 l n t j = l j := fun j h => by unfold up1; rw [if_neg (by omega)]
  have ln : up1 l n t n = t := by unfold up1; rw [if_pos rfl]
  have S1 : ∀ u, S u = 1 → up1 S t 1 u = 1 := fun u h => by
    unfold up1
    split
    · rfl
    · exact h
  have St : up1 S t 1 t = 1 := by unfold up1; rw [if_pos rfl]
  refine ⟨by omega, by omega, by rw [lo 0 (by omega)]; exact c3, fun j j0 j1 => ?_, fun u u0 u1 => ?_, fun u u0 u1 u2 => ?_, ?_, fun j j0 j1 => ?_, fun k' m' a0 a1 b0 b1 h => ?_⟩
  · by_cases q : j = n
    · rw [q, ln]; exact ⟨t0.1, t0.2, St⟩
    · rw [lo j (by omega)]
      have := c4 j j0 (by omega)
      exact ⟨this.1, this.2.1, S1 _ this.2.2⟩
  · unfold up1
    split
    · right; rfl
    · exact c5 u u0 u1
  · by_cases q : u = t
    · exact ⟨n, by omega, by omega, by rw [ln, q]⟩
    · have : S u = 1 := by unfold up1 at u2; rw [if_neg q] at u2; exact u2
      obtain ⟨j, j0, j1, j2⟩ := c6 u u0 u1 this
      exact ⟨j, j0, by omega, by rw [lo j j1]; exact j2⟩
  · rw [(sm_up t0.1).1 (by omega), c7, hs]; omega
  · by_cases q : j = n
    · exact ⟨k, m, k0.1, by omega, m0.1, m0.2, by rw [q, ln, lo k k0.2]; exact e⟩
    · obtain ⟨i, u, i0, i1, u0, u1, w⟩ := c8 j j0 (by omega)
      exact ⟨i, u, i0, i1, u0, u1, by rw [lo j (by omega), lo i (by omega)]; exact w⟩
  · have kn : k' < n := by omega
    rw [lo k' kn]
    by_cases q : k' = k ∧ m' = m
    · rw [q.1, q.2, ← e]; exact St
    · exact S1 _ (c9 k' m' a0 kn b0 b1 (by omega))
theorem cl_skip {N mk n k m t : Int} {S l mr : Int → Int} {mul : Int → Int → Int} (c : clI N mk n k m S l mr mul) (e : t = mul (l k) (mr m)) (hs : S t = 1) : clI N mk n k (m + 1) S l mr mul := by
  obtain ⟨c1, c2, c3, c4, c5, c6, c7, c8, c9⟩ := c
  refine ⟨c1, c2, c3, c4, c5, c6, c7, c8, fun k' m' a0 a1 b0 b1 h => ?_⟩
  by_cases q : k' = k ∧ m' = m
  · rw [q.1, q.2, ← e]; exact hs
  · exact c9 k' m' a0 a1 b0 b1 (by omega)
theorem cl_next {N mk n k m : Int} {S l mr : Int → Int} {mul : Int → Int → Int} (c : clI N mk n k m S l mr mul) (hm : mk ≤ m) : clI N mk n (k + 1) 0 S l mr mul := by
  obtain ⟨c1, c2, c3, c4, c5, c6, c7, c8, c9⟩ := c
  exact ⟨c1, c2, c3, c4, c5, c6, c7, c8, fun k' m' a0 a1 b0 b1 h => c9 k' m' a0 a1 b0 b1 (by omega)⟩
/-- the closed set over some makers -/
def clS (N mk : Int) (S mr : Int → Int) (mul : Int → Int → Int) : Prop := SM N mul S ∧ (∀ m, 0 ≤ m → m < mk → S (mr m) = 1) ∧ (∀ T, SM N mul T → (∀ m, 0 ≤ m → m < mk → T (mr m) = 1) → ∀ t, 0 ≤ t → t < N → S t = 1 → T t = 1)
theorem cl_fin {N mk n : Int} {S l mr : Int → Int} {mul : Int → Int → Int} {inv : Int → Int} (g : GT N mul inv) (hr : ∀ m, 0 ≤ m → m < mk → 0 ≤ mr m ∧ mr m < N) (c : clI N mk n n 0 S l mr mul) : clS N mk S mr mul ∧ sm S N.toNat = n := by
  obtain ⟨c1, c2, c3, c4, c5, c6, c7, c8, c9⟩ := c
  obtain ⟨g1, g2, g3, g4, g5⟩ := g
  have s0 : S 0 = 1 := by have := (c4 0 (by omega) (by omega)).2.2; rw [c3] at this; exact this
  have cl : ∀ s m, 0 ≤ s → s < N → S s = 1 → 0 ≤ m → m < mk → S (mul s (mr m)) = 1 := by
    intro s m a0 a1 a2 b0 b1
    obtain ⟨j, j0, j1, j2⟩ := c6 s a0 a1 a2
    rw [← j2]; exact c9 j m j0 j1 b0 b1 (by omega)
  have all : ∀ (w : Nat) (j : Int), j.toNat = w → 0 ≤ j → j < n → ∀ s, 0 ≤ s → s < N → S s = 1 → S (mul s (l j)) = 1 := by
    intro w
    induction w using Nat.strongRecOn with
    | _ w ih =>
      intro j e j0 j1 s a0 a1 a2
      by_cases q : j = 0
      · rw [q, c3, (g3 s a0 a1).2]; exact a2
      · obtain ⟨i, u, i0, i1, u0, u1, v⟩ := c8 j (by omega) j1
        have li := c4 i i0 (by omega)
        have ru := hr u u0 u1
        have h1 := ih i.toNat (by omega) i rfl i0 (by omega) s a0 a1 a2
        have h2 := g2 s (l i) a0 a1 li.1 li.2.1
        rw [v, ← g4 s (l i) (mr u) a0 a1 li.1 li.2.1 ru.1 ru.2]
        exact cl _ u h2.1 h2.2 h1 u0 u1
  refine ⟨⟨⟨c5, s0, fun s t a0 a1 b0 b1 h1 h2 => ?_⟩, fun m m0 m1 => ?_, fun T hT hm t t0 t1 ht => ?_⟩, c7⟩
  · obtain ⟨j, j0, j1, j2⟩ := c6 t b0 b1 h2
    rw [← j2]; exact all _ j rfl j0 j1 s a0 a1 h1
  · have := cl 0 m (by omega) (by omega) s0 m0 m1
    have r := hr m m0 m1
    rw [(g3 _ r.1 r.2).1] at this
    exact this
  · have allT : ∀ (w : Nat) (j : Int), j.toNat = w → 0 ≤ j → j < n → T (l j) = 1 := by
      intro w
      induction w using Nat.strongRecOn with
      | _ w ih =>
        intro j e j0 j1
        by_cases q : j = 0
        · rw [q, c3]; exact hT.2.1
        · obtain ⟨i, u, i0, i1, u0, u1, v⟩ := c8 j (by omega) j1
          have li := c4 i i0 (by omega)
          have ru := hr u u0 u1
          rw [v]
          exact hT.2.2 _ _ li.1 li.2.1 ru.1 ru.2 (ih i.toNat (by omega) i rfl i0 (by omega)) (hm u u0 u1)
    obtain ⟨j, j0, j1, j2⟩ := c6 t t0 t1 ht
    rw [← j2]; exact allT _ j rfl j0 j1
section
variable {d : Nat} {G : List gS} {R V : gV} {M : Nat}
abbrev mMul (V : gV) (M : Nat) : Int → Int → Int := fun s t => V (M + 5) (120 * s + t)
abbrev mInv (V : gV) (M : Nat) : Int → Int := fun s => V (M + 6) s
abbrev mHas (V : gV) (M : Nat) (h : Int) : Int → Int := fun t => V (M + 9) (120 * h + t)
abbrev mMkr (V : gV) (M : Nat) (h : Int) : Int → Int := fun m => V (M + 11) (7 * h + m)
def clF (V V' : gV) (M : Nat) (h : Int) : Prop := ∀ a i, ¬ (a = M + 9 ∧ 120 * h ≤ i ∧ i < 120 * h + V M 5) → a ≠ M + 19 → ¬ (a = M + 10 ∧ i = h) → V' a i = V a i
def clP (V V' : gV) (M : Nat) (h : Int) : Prop := clF V V' M h ∧ clS (V M 5) (V (M + 12) h) (mHas V' M h) (mMkr V M h) (mMul V M) ∧ V' (M + 10) h = sm (mHas V' M h) (V M 5).toNat
theorem closes_c (ly : lay8 G R M) {h : Int} (g : GT (V M 5) (mMul V M) (mInv V M)) (hN : V M 5 ≤ 120) (h0 : 0 ≤ h ∧ h ≤ 300) (mk0 : 0 ≤ V (M + 12) h ∧ V (M + 12) h ≤ 7) (hr : ∀ m, 0 ≤ m → m < V (M + 12) h → 0 ≤ V (M + 11) (7 * h + m) ∧ V (M + 11) (7 * h + m) < V M 5) : cwv 1 (fun r V' => r = none ∧ clP V V' M h) 170 [(4, (M : Int)), (0, h)] G R V := by
  have N1 := g.1
  refine c_X8_closes (t_X8_closes_0 ly ?_)
  generalize hV0 : V = V0 at g hN mk0 hr N1 ⊢
  refine loop1 (f := fun x => [some (4, (M : Int)), some (0, h), some (0, x)]) (fun x V => 0 ≤ x ∧ x ≤ V0 M 5 ∧ (∀ a i, ¬ (a = M + 9 ∧ 120 * h ≤ i ∧ i < 120 * h + V0 M 5) → V a i = V0 a i) ∧ ∀ t, 0 ≤ t → t < x → V (M + 9) (120 * h + t) = 0) (fun x _ => (V0 M 5 - x).toNat) (fun x V hx ih => ?_) 0 V0 ⟨by omega, by omega, fun _ _ _ => rfl, fun k h1 h2 => by omega⟩
  obtain ⟨x0, x1, fr, zr⟩ := hx
  have e5 : V M 5 = V0 M 5 := fr _ _ (by omega)
  refine t_X8_closes_2 ly (fun _ => ⟨by omega, fun c => ⟨by omega, by omega, ?_⟩, fun c => ⟨by omega, by omega, by omega, by omega, ih (x + 1) _ ⟨by omega, by omega, fun a i b => ?_, fun t t0 t1 => ?_⟩ (by omega)⟩⟩)
  · have xN : x = V0 M 5 := by omega
    -- the list grows
    refine loop2 (f := fun n k => [some (4, (M : Int)), some (0, h), some (0, n), some (0, k)]) (fun n k V => 0 ≤ k ∧ k ≤ n ∧ clF V0 V M h ∧ clI (V0 M 5) (V0 (M + 12) h) n k 0 (mHas V M h) (fun j => V (M + 19) j) (mMkr V0 M h) (mMul V0 M)) (fun n k _ => (V0 M 5 - k).toNat) (fun n k V hx ih => ?_) 1 0 _ ⟨by omega, by omega, fun a i b1 b2 b3 => ?_, ?_⟩
    · clear fr zr e5 c
      obtain ⟨k0, k1, fr, cl⟩ := hx
      have nN : 1 ≤ n ∧ n ≤ V0 M 5 := ⟨cl.1, cl.2.1⟩
      refine t_X8_closes_49 ly ⟨by omega, by omega, fun c => ⟨by omega, rfl, ?_⟩, fun c => ?_⟩
      · have kn : k = n := by omega
        subst kn
        obtain ⟨f1, f2⟩ := cl_fin g hr cl
        have eh : mHas (wr V (M + 10) h k) M h = mHas V M h := by
          funext t
          exact wr_a (by omega)
        refine ⟨fun a i b1 b2 b3 => ?_, ?_, ?_⟩
        · rw [wr_ne b3]; exact fr a i b1 b2 b3
        · rw [eh]; exact f1
        · rw [eh, wr_same]; exact f2.symm
      · refine loop2 (f := fun n m => [some (4, (M : Int)), some (0, h), some (0, n), some (0, k), some (0, m)]) (fun n m V => k < n ∧ 0 ≤ m ∧ m ≤ V0 (M + 12) h ∧ clF V0 V M h ∧ clI (V0 M 5) (V0 (M + 12) h) n k m (mHas V M h) (fun j => V (M + 19) j) (mMkr V0 M h) (mMul V0 M)) (fun _ m _ => (V0 (M + 12) h - m).toNat) (fun n m V hx ih2 => ?_) n 0 V ⟨c, by omega, by omega, fr, cl⟩
        clear fr cl nN c
        obtain ⟨c, m0, m1, fr, cl⟩ := hx
        have nN : 1 ≤ n ∧ n ≤ V0 M 5 := ⟨cl.1, cl.2.1⟩
        have f12 : V (M + 12) h = V0 (M + 12) h := fr _ _ (by omega) (by omega) (by omega)
        have f11 : ∀ i, V (M + 11) i = V0 (M + 11) i := fun i => fr _ _ (by omega) (by omega) (by omega)
        have f5 : ∀ i, V (M + 5) i = V0 (M + 5) i := fun i => fr _ _ (by omega) (by omega) (by omega)
        have lk := cl.2.2.2.1 k k0 c
        dsimp only at lk
        refine t_X8_closes_57 ly ⟨by omega, fun _ => ⟨by omega, fun c2 => ⟨by omega, ih n (k + 1) V ⟨by omega, by omega, fr, cl_next cl (by omega)⟩ (by omega)⟩, fun c2 => ?_⟩⟩
        rw [f12] at c2
        have rm := hr m m0 c2
        have pm : 0 ≤ V0 (M + 5) (120 * V (M + 19) k + V0 (M + 11) (7 * h + m)) ∧ V0 (M + 5) (120 * V (M + 19) k + V0 (M + 11) (7 * h + m)) < V0 M 5 := g.2.1 _ _ lk.1 lk.2.1 rm.1 rm.2
        rw [f11, f5]
        generalize ht : V0 (M + 5) (120 * V (M + 19) k + V0 (M + 11) (7 * h + m)) = t at pm
        refine ⟨by omega, fun _ => ⟨by omega, by omega, by omega, by omega, fun _ => ⟨by omega, by omega, fun _ => ⟨by omega, by omega, by omega, fun bt => ⟨fun z => ?_, fun z => ⟨by omega, ih2 n (m + 1) V ⟨c, by omega, by omega, fr, cl_skip cl ht.symm ?_⟩ (by omega)⟩⟩⟩⟩⟩⟩
        · have lt := cl_lt cl pm z
          refine ⟨by omega, by omega, by omega, ih2 (n + 1) (m + 1) _ ⟨by omega, by omega, by omega, fun a i b1 b2 b3 => ?_, ?_⟩ (by omega)⟩
          · rw [wr_a b2, wr_ne (fun q => b1 ⟨q.1, by omega, by omega⟩)]; exact fr a i b1 b2 b3
          · have e1 : mHas (wr (wr V (M + 9) (120 * h + t) 1) (M + 19) n t) M h = up1 (mHas V M h) t 1 := by
              funext u
              show wr (wr V (M + 9) (120 * h + t) 1) (M + 19) n t (M + 9) (120 * h + u) = _
              rw [wr_a (by omega)]
              unfold up1
              by_cases q : u = t
              · rw [q, wr_same, if_pos rfl]
              · rw [wr_i (by omega), if_neg q]
            have e2 : (fun j => wr (wr V (M + 9) (120 * h + t) 1) (M + 19) n t (M + 19) j) = up1 (fun j => V (M + 19) j) n t := by
              funext u
              unfold up1
              by_cases q : u = n
              · rw [q, wr_same, if_pos rfl]
              · rw [wr_i q, wr_a (by omega), if_neg q]
            rw [e1, e2]
            exact cl_add cl ⟨k0, c⟩ ⟨m0, c2⟩ pm ht.symm z
        · rcases bt with q | q
          · exact absurd q z
          · exact q
    · rw [wr_ne (fun q => b1 ⟨q.1, by omega, by omega⟩), wr_a b2]; exact fr a i b1
    · have e1 : ∀ t, mHas (wr (wr V (M + 19) 0 0) (M + 9) (120 * h) 1) M h t = if t = 0 then 1 else V (M + 9) (120 * h + t) := by
        intro t
        show wr (wr V (M + 19) 0 0) (M + 9) (120 * h) 1 (M + 9) (120 * h + t) = _
        by_cases q : t = 0
        · rw [q, if_pos rfl, show 120 * h + 0 = 120 * h by omega, wr_same]
        · rw [if_neg q, wr_i (by omega), wr_a (by omega)]
      have e2 : wr (wr V (M + 19) 0 0) (M + 9) (120 * h) 1 (M + 19) 0 = 0 := by rw [wr_a (by omega), wr_same]
      have en : (((V0 M 5).toNat : Nat) : Int) = V0 M 5 := Int.toNat_of_nonneg (by omega)
      refine ⟨by omega, by omega, e2, fun j j0 j1 => ?_, fun t t0 t1 => ?_, fun t t0 t1 t2 => ⟨0, by omega, by omega, ?_⟩, ?_, fun j j0 j1 => by omega, fun k' m' a0 a1 b0 b1 q => by omega⟩
      · have : j = 0 := by omega
        subst this
        dsimp only
        rw [e2]
        exact ⟨by omega, by omega, by rw [e1, if_pos rfl]⟩
      · rw [e1]
        split
        · right; rfl
        · left; exact zr t t0 (by omega)
      · dsimp only
        rw [e2]
        rw [e1] at t2
        by_cases q : t = 0
        · exact q.symm
        · rw [if_neg q, zr t t0 (by omega)] at t2; omega
      · have : sm (mHas (wr (wr V (M + 19) 0 0) (M + 9) (120 * h) 1) M h) (V0 M 5).toNat = sm (up1 (fun _ => 0) 0 1) (V0 M 5).toNat := by
          refine sm_congr (fun t t0 t1 => ?_)
          rw [e1]
          unfold up1
          by_cases q : t = 0
          · rw [if_pos q, if_pos q]
          · rw [if_neg q, if_neg q, zr t t0 (by omega)]
        rw [this, (sm_up (by omega)).1 (by omega)]
        have z : ∀ n : Nat, sm (fun _ => 0) n = 0 := by
          intro n
          induction n with
          | zero => rfl
          | succ n ih => show sm (fun _ => 0) n + 0 = 0; omega
        rw [z]; omega
  · rw [wr_ne (fun q => b ⟨q.1, by omega, by omega⟩)]; exact fr a i b
  · by_cases q : t = x
    · rw [q, wr_same]
    · rw [wr_i (by omega)]; exact zr t t0 (by omega)
end
