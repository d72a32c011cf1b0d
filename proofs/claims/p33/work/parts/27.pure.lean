/-! sums and counts -/
def sm (f : Int → Int) : Nat → Int
  | 0 => 0
  | n + 1 => sm f n + f n
theorem sm_s (f : Int → Int) {x : Int} (h : 0 ≤ x) : sm f (x + 1).toNat = sm f x.toNat + f x := by
  rw [show (x + 1).toNat = x.toNat + 1 by omega]
  show sm f x.toNat + f (x.toNat : Int) = _
  rw [Int.toNat_of_nonneg h]
theorem sm_le {f g : Int → Int} : ∀ {n : Nat}, (∀ i : Int, 0 ≤ i → i < n → f i ≤ g i) → sm f n ≤ sm g n := by
  intro n
  induction n with
  | zero => intro _; exact Int.le_refl _
  | succ n ih =>
    intro h
    have h1 := ih (fun i h0 h1 => h i h0 (by omega))
    have h2 := h n (by omega) (by omega)
    show sm f n + f n ≤ sm g n + g n
    omega
theorem sm_lt {f g : Int → Int} {j : Int} : ∀ {n : Nat}, (∀ i : Int, 0 ≤ i → i < n → f i ≤ g i) → 0 ≤ j → j < n → f j < g j → sm f n < sm g n := by
  intro n
  induction n with
  | zero => intro _ h0 h1 _; omega
  | succ n ih =>
    intro h h0 h1 h2
    show sm f n + f n < sm g n + g n
    have h4 := h n (by omega) (by omega)
    by_cases e : j = n
    · subst e
      have h3 : sm f n ≤ sm g n := sm_le (fun i h0 h1 => h i h0 (by omega))
      omega
    · have h3 := ih (fun i h0 h1 => h i h0 (by omega)) h0 (by omega) h2
      omega
theorem sm_congr {f g : Int → Int} {n : Nat} (h : ∀ i : Int, 0 ≤ i → i < n → f i = g i) : sm f n = sm g n := Int.le_antisymm (sm_le (fun i h0 h1 => Int.le_of_eq (h i h0 h1))) (sm_le (fun i h0 h1 => Int.le_of_eq (h i h0 h1).symm))
theorem sm_b {f : Int → Int} : ∀ {n : Nat}, (∀ i : Int, 0 ≤ i → i < n → 0 ≤ f i ∧ f i ≤ 1) → 0 ≤ sm f n ∧ sm f n ≤ n := by
  intro n
  induction n with
  | zero => intro _; exact ⟨Int.le_refl _, Int.le_refl _⟩
  | succ n ih =>
    intro h
    have h1 := ih (fun i h0 h1 => h i h0 (by omega))
    have h2 := h n (by omega) (by omega)
    show 0 ≤ sm f n + f n ∧ sm f n + f n ≤ ((n + 1 : Nat) : Int)
    omega
theorem sm_add (f g : Int → Int) : ∀ n : Nat, sm (fun i => f i + g i) n = sm f n + sm g n := by
  intro n
  induction n with
  | zero => rfl
  | succ n ih =>
    show sm (fun i => f i + g i) n + (f n + g n) = sm f n + f n + (sm g n + g n)
    omega
def up1 (f : Int → Int) (j v : Int) : Int → Int := fun i => if i = j then v else f i
theorem sm_up {f : Int → Int} {j v : Int} : ∀ {n : Nat}, 0 ≤ j → (j < n → sm (up1 f j v) n = sm f n + (v - f j)) ∧ (¬ j < n → sm (up1 f j v) n = sm f n) := by
  intro n
  induction n with
  | zero => intro h; exact ⟨fun h1 => by omega, fun _ => rfl⟩
  | succ n ih =>
    intro h
    obtain ⟨i1, i2⟩ := ih h
    have e : sm (up1 f j v) (n + 1) = sm (up1 f j v) n + (if (n : Int) = j then v else f n) := rfl
    have e2 : sm f (n + 1) = sm f n + f n := rfl
    refine ⟨fun h1 => ?_, fun h1 => ?_⟩
    · by_cases q : (n : Int) = j
      · rw [e, if_pos q, e2, i2 (by omega), q]; omega
      · rw [e, if_neg q, e2, i1 (by omega)]; omega
    · rw [e, if_neg (by omega), e2, i2 (by omega)]
/-- the places that a row goes to -/
def imf (a φ : Int → Int) : Nat → (Int → Int)
  | 0 => fun _ => 0
  | m + 1 => if a m = 1 then up1 (imf a φ m) (φ m) 1 else imf a φ m
theorem imf_spec (a φ : Int → Int) : ∀ (m : Nat) (j : Int), (imf a φ m j = 0 ∨ imf a φ m j = 1) ∧ (imf a φ m j = 1 ↔ ∃ i : Int, 0 ≤ i ∧ i < m ∧ a i = 1 ∧ φ i = j) := by
  intro m
  induction m with
  | zero =>
    intro j
    refine ⟨Or.inl rfl, ⟨fun h => ?_, fun h => ?_⟩⟩
    · exact absurd (show (0 : Int) = 1 from h) (by omega)
    · obtain ⟨i, h1, h2, _⟩ := h; omega
  | succ m ih =>
    intro j
    obtain ⟨i1, i2⟩ := ih j
    by_cases c : a m = 1
    · have e : imf a φ (m + 1) = up1 (imf a φ m) (φ m) 1 := by simp [imf, c]
      rw [e]
      unfold up1
      by_cases q : j = φ m
      · rw [if_pos q]
        exact ⟨Or.inr rfl, ⟨fun _ => ⟨m, by omega, by omega, c, q.symm⟩, fun _ => rfl⟩⟩
      · rw [if_neg q]
        refine ⟨i1, ⟨fun h => ?_, fun h => ?_⟩⟩
        · obtain ⟨i, h1, h2, h3, h4⟩ := i2.mp h
          exact ⟨i, h1, by omega, h3, h4⟩
        · obtain ⟨i, h1, h2, h3, h4⟩ := h
          refine i2.mpr ⟨i, h1, ?_, h3, h4⟩
          by_cases z : i = m
          · subst z; exact absurd h4.symm q
          · omega
    · have e : imf a φ (m + 1) = imf a φ m := by simp [imf, c]
      rw [e]
      refine ⟨i1, ⟨fun h => ?_, fun h => ?_⟩⟩
      · obtain ⟨i, h1, h2, h3, h4⟩ := i2.mp h
        exact ⟨i, h1, by omega, h3, h4⟩
      · obtain ⟨i, h1, h2, h3, h4⟩ := h
        refine i2.mpr ⟨i, h1, ?_, h3, h4⟩
        by_cases z : i = m
        · subst z; exact absurd h3 c
        · omega
theorem imf_sm {a φ : Int → Int} {n : Nat} : ∀ (m : Nat), (∀ i : Int, 0 ≤ i → i < m → a i = 0 ∨ a i = 1) → (∀ i : Int, 0 ≤ i → i < m → a i = 1 → 0 ≤ φ i ∧ φ i < n) → (∀ i j : Int, 0 ≤ i → i < m → 0 ≤ j → j < m → a i = 1 → a j = 1 → φ i = φ j → i = j) → sm (imf a φ m) n = sm a m := by
  intro m
  induction m with
  | zero =>
    intro _ _ _
    have : ∀ n : Nat, sm (imf a φ 0) n = 0 := by
      intro n
      induction n with
      | zero => rfl
      | succ n ih => show sm (imf a φ 0) n + 0 = 0; omega
    exact this n
  | succ m ih =>
    intro h0 h1 h2
    have i1 := ih (fun i q1 q2 => h0 i q1 (by omega)) (fun i q1 q2 => h1 i q1 (by omega)) (fun i j q1 q2 q3 q4 => h2 i j q1 (by omega) q3 (by omega))
    have e2 : sm a (m + 1) = sm a m + a m := rfl
    by_cases c : a m = 1
    · have e : imf a φ (m + 1) = up1 (imf a φ m) (φ m) 1 := by simp [imf, c]
      obtain ⟨q1, q2⟩ := h1 m (by omega) (by omega) c
      have z : imf a φ m (φ m) = 0 := by
        obtain ⟨r1, r2⟩ := imf_spec a φ m (φ m)
        rcases r1 with r1 | r1
        · exact r1
        · obtain ⟨i, k1, k2, k3, k4⟩ := r2.mp r1
          have := h2 i m k1 (by omega) (by omega) (by omega) k3 c k4
          omega
      rw [e, (sm_up q1).1 q2, z, e2, c, i1]; omega
    · have e : imf a φ (m + 1) = imf a φ m := by simp [imf, c]
      have c0 : a m = 0 := by
        rcases h0 m (by omega) (by omega) with r | r
        · exact r
        · exact absurd r c
      rw [e, e2, c0, i1]; omega
/-- as many that go into a set one by one -/
theorem sm_inj {a c φ : Int → Int} {n : Nat} (ha : ∀ i : Int, 0 ≤ i → i < n → a i = 0 ∨ a i = 1) (hc : ∀ i : Int, 0 ≤ i → i < n → c i = 0 ∨ c i = 1) (h1 : ∀ i : Int, 0 ≤ i → i < n → a i = 1 → 0 ≤ φ i ∧ φ i < n ∧ c (φ i) = 1) (h2 : ∀ i j : Int, 0 ≤ i → i < n → 0 ≤ j → j < n → a i = 1 → a j = 1 → φ i = φ j → i = j) : sm a n ≤ sm c n := by
  rw [← imf_sm (n := n) n ha (fun i q1 q2 q3 => ⟨(h1 i q1 q2 q3).1, (h1 i q1 q2 q3).2.1⟩) h2]
  refine sm_le (fun j q1 q2 => ?_)
  obtain ⟨r1, r2⟩ := imf_spec a φ n j
  rcases r1 with r1 | r1
  · rcases hc j q1 q2 with s | s <;> omega
  · obtain ⟨i, k1, k2, k3, k4⟩ := r2.mp r1
    have := (h1 i k1 k2 k3).2.2
    rw [k4] at this
    omega
/-- one by one into itself: all are met -/
theorem sm_sur {a φ : Int → Int} {n : Nat} (ha : ∀ i : Int, 0 ≤ i → i < n → a i = 0 ∨ a i = 1) (h1 : ∀ i : Int, 0 ≤ i → i < n → a i = 1 → 0 ≤ φ i ∧ φ i < n ∧ a (φ i) = 1) (h2 : ∀ i j : Int, 0 ≤ i → i < n → 0 ≤ j → j < n → a i = 1 → a j = 1 → φ i = φ j → i = j) {y : Int} (y0 : 0 ≤ y) (y1 : y < n) (hy : a y = 1) : ∃ i : Int, 0 ≤ i ∧ i < n ∧ a i = 1 ∧ φ i = y := by
  have e := imf_sm (n := n) n ha (fun i q1 q2 q3 => ⟨(h1 i q1 q2 q3).1, (h1 i q1 q2 q3).2.1⟩) h2
  obtain ⟨r1, r2⟩ := imf_spec a φ n y
  rcases r1 with r1 | r1
  · exfalso
    have : sm (imf a φ n) n < sm a n := by
      refine sm_lt (j := y) (fun j q1 q2 => ?_) y0 y1 (by omega)
      obtain ⟨r3, r4⟩ := imf_spec a φ n j
      rcases r3 with r3 | r3
      · rcases ha j q1 q2 with s | s <;> omega
      · obtain ⟨i, k1, k2, k3, k4⟩ := r4.mp r3
        have := (h1 i k1 k2 k3).2.2
        rw [k4] at this
        omega
    omega
  · exact r2.mp r1
theorem pig {φ : Int → Int} {n : Int} (h0 : 0 ≤ n) (h1 : ∀ i : Int, 0 ≤ i → i < n → 0 ≤ φ i ∧ φ i < n) (h2 : ∀ i j : Int, 0 ≤ i → i < n → 0 ≤ j → j < n → φ i = φ j → i = j) {y : Int} (y0 : 0 ≤ y) (y1 : y < n) : ∃ i : Int, 0 ≤ i ∧ i < n ∧ φ i = y := by
  have en : ((n.toNat : Nat) : Int) = n := Int.toNat_of_nonneg h0
  obtain ⟨i, k1, k2, _, k4⟩ := sm_sur (a := fun _ => 1) (φ := φ) (n := n.toNat) (fun _ _ _ => Or.inr rfl) (fun i q1 q2 _ => ⟨(h1 i q1 (by omega)).1, by have := (h1 i q1 (by omega)).2; omega, rfl⟩) (fun i j q1 q2 q3 q4 _ _ q5 => h2 i j q1 (by omega) q3 (by omega) q5) y0 (by omega) rfl
  exact ⟨i, k1, by omega, k4⟩
/-! groups of the numbers 0 to n - 1 -/
def GT (n : Int) (mul : Int → Int → Int) (inv : Int → Int) : Prop := 1 ≤ n ∧ (∀ s t, 0 ≤ s → s < n → 0 ≤ t → t < n → 0 ≤ mul s t ∧ mul s t < n) ∧ (∀ t, 0 ≤ t → t < n → mul 0 t = t ∧ mul t 0 = t) ∧ (∀ r s t, 0 ≤ r → r < n → 0 ≤ s → s < n → 0 ≤ t → t < n → mul (mul r s) t = mul r (mul s t)) ∧ (∀ s, 0 ≤ s → s < n → 0 ≤ inv s ∧ inv s < n ∧ mul s (inv s) = 0 ∧ mul (inv s) s = 0)
/-- a set of turns that is closed -/
def SM (n : Int) (mul : Int → Int → Int) (S : Int → Int) : Prop := (∀ t, 0 ≤ t → t < n → S t = 0 ∨ S t = 1) ∧ S 0 = 1 ∧ ∀ s t, 0 ≤ s → s < n → 0 ≤ t → t < n → S s = 1 → S t = 1 → S (mul s t) = 1
theorem GT_cl {n : Int} {mul : Int → Int → Int} {inv : Int → Int} (g : GT n mul inv) {a x y : Int} (a0 : 0 ≤ a ∧ a < n) (x0 : 0 ≤ x ∧ x < n) (y0 : 0 ≤ y ∧ y < n) (e : mul a x = mul a y) : x = y := by
  obtain ⟨g1, g2, g3, g4, g5⟩ := g
  obtain ⟨i0, i1, i2, i3⟩ := g5 a a0.1 a0.2
  have h1 := g4 (inv a) a x i0 i1 a0.1 a0.2 x0.1 x0.2
  have h2 := g4 (inv a) a y i0 i1 a0.1 a0.2 y0.1 y0.2
  rw [i3, (g3 x x0.1 x0.2).1] at h1
  rw [i3, (g3 y y0.1 y0.2).1] at h2
  rw [h1, h2, e]
theorem GT_cr {n : Int} {mul : Int → Int → Int} {inv : Int → Int} (g : GT n mul inv) {a x y : Int} (a0 : 0 ≤ a ∧ a < n) (x0 : 0 ≤ x ∧ x < n) (y0 : 0 ≤ y ∧ y < n) (e : mul x a = mul y a) : x = y := by
  obtain ⟨g1, g2, g3, g4, g5⟩ := g
  obtain ⟨i0, i1, i2, i3⟩ := g5 a a0.1 a0.2
  have h1 := g4 x a (inv a) x0.1 x0.2 a0.1 a0.2 i0 i1
  have h2 := g4 y a (inv a) y0.1 y0.2 a0.1 a0.2 i0 i1
  rw [i2, (g3 x x0.1 x0.2).2] at h1
  rw [i2, (g3 y y0.1 y0.2).2] at h2
  rw [← h1, ← h2, e]
/-- what a turn of a closed set leads to is met -/
theorem SM_div {n : Int} {mul : Int → Int → Int} {inv : Int → Int} (g : GT n mul inv) {S : Int → Int} (hS : SM n mul S) {a b : Int} (a0 : 0 ≤ a ∧ a < n) (ha : S a = 1) (b0 : 0 ≤ b ∧ b < n) (hb : S b = 1) : ∃ x, 0 ≤ x ∧ x < n ∧ S x = 1 ∧ mul a x = b := by
  have en : ((n.toNat : Nat) : Int) = n := Int.toNat_of_nonneg (by have := g.1; omega)
  obtain ⟨i, k1, k2, k3, k4⟩ := sm_sur (a := S) (φ := mul a) (n := n.toNat) (fun i q1 q2 => hS.1 i q1 (by omega)) (fun i q1 q2 q3 => ⟨(g.2.1 a i a0.1 a0.2 q1 (by omega)).1, by have := (g.2.1 a i a0.1 a0.2 q1 (by omega)).2; omega, hS.2.2 a i a0.1 a0.2 q1 (by omega) ha q3⟩) (fun i j q1 q2 q3 q4 _ _ q5 => GT_cl g a0 ⟨q1, by omega⟩ ⟨q3, by omega⟩ q5) b0.1 (by omega) hb
  exact ⟨i, k1, by omega, k3, k4⟩
theorem SM_inv {n : Int} {mul : Int → Int → Int} {inv : Int → Int} (g : GT n mul inv) {S : Int → Int} (hS : SM n mul S) {a : Int} (a0 : 0 ≤ a ∧ a < n) (ha : S a = 1) : S (inv a) = 1 := by
  obtain ⟨x, x0, x1, x2, x3⟩ := SM_div g hS a0 ha ⟨Int.le_refl 0, by have := g.1; omega⟩ hS.2.1
  have := g.2.2.2.2 a a0.1 a0.2
  have e : x = inv a := GT_cl g a0 ⟨x0, x1⟩ ⟨this.1, this.2.1⟩ (by rw [x3, this.2.2.1])
  rw [← e]; exact x2
/-- a closed set with a turn more has twice as many -/
theorem SM_two {n : Int} {mul : Int → Int → Int} {inv : Int → Int} (g : GT n mul inv) {S T : Int → Int} (hS : SM n mul S) (hT : SM n mul T) (hST : ∀ x, 0 ≤ x → x < n → S x = 1 → T x = 1) {t : Int} (t0 : 0 ≤ t ∧ t < n) (hs : S t = 0) (ht : T t = 1) : 2 * sm S n.toNat ≤ sm T n.toNat := by
  have en : ((n.toNat : Nat) : Int) = n := Int.toNat_of_nonneg (by have := g.1; omega)
  have h1 : sm S n.toNat ≤ sm (fun i => T i - S i) n.toNat := by
    refine sm_inj (φ := fun x => mul x t) (fun i q1 q2 => hS.1 i q1 (by omega)) (fun i q1 q2 => ?_) (fun i q1 q2 q3 => ?_) (fun i j q1 q2 q3 q4 _ _ q5 => GT_cr g t0 ⟨q1, by omega⟩ ⟨q3, by omega⟩ q5)
    · rcases hS.1 i q1 (by omega) with s | s
      · rcases hT.1 i q1 (by omega) with s2 | s2 <;> omega
      · have := hST i q1 (by omega) s
        omega
    · have m := g.2.1 i t q1 (by omega) t0.1 t0.2
      refine ⟨m.1, by omega, ?_⟩
      have m1 : T (mul i t) = 1 := hT.2.2 i t q1 (by omega) t0.1 t0.2 (hST i q1 (by omega) q3) ht
      have m2 : S (mul i t) = 0 := by
        rcases hS.1 _ m.1 m.2 with s | s
        · exact s
        · obtain ⟨x, x0, x1, x2, x3⟩ := SM_div g hS ⟨q1, by omega⟩ q3 m s
          have := GT_cl g ⟨q1, by omega⟩ ⟨x0, x1⟩ t0 x3
          rw [this] at x2
          omega
      omega
  have h2 : sm T n.toNat = sm (fun i => (T i - S i) + S i) n.toNat := sm_congr (fun i _ _ => by omega)
  rw [sm_add (fun i => T i - S i) S] at h2
  omega
