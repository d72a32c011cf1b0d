/-! pure calls -/
abbrev cpI (d : Nat) (v : Int) (y : Nat) (as : List zV) (G : List gS) (R V : gV) : Prop := cwv d (fun r V' => r = some (0, v) ∧ V' = V) y as G R V
abbrev cpJ (d : Nat) (v : Int) (y : Nat) (as : List zV) (G : List gS) (R V : gV) : Prop := cwv d (fun r V' => r = some (2, v) ∧ V' = V) y as G R V
theorem cpI_u {d d2 : Nat} {v : Int} {y : Nat} {as : List zV} {G : List gS} {R V : gV} {X : Int → gV → Prop} (hd : d ≤ d2) (w : cpI d v y as G R V) (x : X v V) : cwv d2 (fun r V' => ∃ v' : Int, r = some (0, v') ∧ X v' V') y as G R V := cwv_mono hd w (fun r V' h => ⟨v, h.1, by rw [h.2]; exact x⟩)
theorem cpJ_u {d d2 : Nat} {v : Int} {y : Nat} {as : List zV} {G : List gS} {R V : gV} {X : Int → gV → Prop} (hd : d ≤ d2) (w : cpJ d v y as G R V) (x : X v V) : cwv d2 (fun r V' => ∃ v' : Int, r = some (2, v') ∧ X v' V') y as G R V := cwv_mono hd w (fun r V' h => ⟨v, h.1, by rw [h.2]; exact x⟩)
theorem cwI_u {d d2 : Nat} {y : Nat} {as : List zV} {G : List gS} {R V : gV} {X Y : Int → gV → Prop} (hd : d ≤ d2) (w : cwv d (fun r V' => ∃ v : Int, r = some (0, v) ∧ Y v V') y as G R V) (x : ∀ v V', Y v V' → X v V') : cwv d2 (fun r V' => ∃ v' : Int, r = some (0, v') ∧ X v' V') y as G R V := cwv_mono hd w (fun r V' h => by obtain ⟨v, h1, h2⟩ := h; exact ⟨v, h1, x v V' h2⟩)
theorem cwJ_u {d d2 : Nat} {y : Nat} {as : List zV} {G : List gS} {R V : gV} {X Y : Int → gV → Prop} (hd : d ≤ d2) (w : cwv d (fun r V' => ∃ v : Int, r = some (2, v) ∧ Y v V') y as G R V) (x : ∀ v V', Y v V' → X v V') : cwv d2 (fun r V' => ∃ v' : Int, r = some (2, v') ∧ X v' V') y as G R V := cwv_mono hd w (fun r V' h => by obtain ⟨v, h1, h2⟩ := h; exact ⟨v, h1, x v V' h2⟩)
theorem cw0_u {d d2 : Nat} {y : Nat} {as : List zV} {G : List gS} {R V : gV} {X Y : gV → Prop} (hd : d ≤ d2) (w : cwv d (fun r V' => r = none ∧ Y V') y as G R V) (x : ∀ V', Y V' → X V') : cwv d2 (fun r V' => r = none ∧ X V') y as G R V := cwv_mono hd w (fun r V' h => ⟨h.1, x V' h.2⟩)
/-- one if it holds -/
noncomputable def bi (p : Prop) : Int := @ite _ p (Classical.propDecidable p) 1 0
theorem bi_t {p : Prop} (h : p) : bi p = 1 := by unfold bi; rw [if_pos h]
theorem bi_f {p : Prop} (h : ¬ p) : bi p = 0 := by unfold bi; rw [if_neg h]
theorem bi_01 (p : Prop) : bi p = 0 ∨ bi p = 1 := by
  by_cases h : p
  · right; exact bi_t h
  · left; exact bi_f h
theorem bi_0 {p : Prop} : bi p = 0 ↔ ¬ p := by
  by_cases h : p
  · rw [bi_t h]; simp [h]
  · rw [bi_f h]; simp [h]
theorem bi_1 {p : Prop} : bi p = 1 ↔ p := by
  by_cases h : p
  · rw [bi_t h]; simp [h]
  · rw [bi_f h]; simp [h]
theorem bi_c {p q : Prop} (h : p ↔ q) : bi p = bi q := by
  by_cases hp : p
  · rw [bi_t hp, bi_t (h.mp hp)]
  · rw [bi_f hp, bi_f (fun z => hp (h.mpr z))]
theorem bi32 (p : Prop) : i32 (bi p) := by rcases bi_01 p with h | h <;> rw [h] <;> exact ⟨by omega, by omega⟩
section
variable {d : Nat} {G : List gS} {R V : gV} {M : Nat}
theorem in_c {a b c : Int} (ha : i64 a) (hb : i64 b) (hc : i64 c) : cpI 1 (bi (b ≤ a ∧ a ≤ c)) 159 [(2, a), (2, b), (2, c)] G R V := by
  refine c_X8_in (t_X8_in_0 ⟨ha, hb, fun h => ⟨?_, rfl⟩, fun h => ⟨hc, fun h2 => ⟨?_, rfl⟩, fun h2 => ⟨?_, rfl⟩⟩⟩)
  · rw [bi_f (by omega)]
  · rw [bi_f (by omega)]
  · rw [bi_t (by omega)]
theorem newPlace_c (ly : lay8 G R M) {g p : Int} (h : 0 ≤ 8 * g + p ∧ 8 * g + p < 1000) (hp : 0 ≤ p ∧ p ≤ 8) : cpI 1 (V (M + 7) (8 * g + p)) 164 [(4, (M : Int)), (0, g), (0, p)] G R V :=
  c_X8_newPlace (t_X8_newPlace_0 ly ⟨by omega, by omega, h, fun _ => ⟨rfl, rfl⟩⟩)
/-- row a of new images stands before row b -/
def isBf (V : gV) (M : Nat) (n a b : Int) : Prop := ∃ p, 0 ≤ p ∧ p < n ∧ V (M + 7) (8 * a + p) < V (M + 7) (8 * b + p) ∧ ∀ q, 0 ≤ q → q < p → V (M + 7) (8 * a + q) = V (M + 7) (8 * b + q)
theorem isBefore_c (ly : lay8 G R M) {a b n : Int} (hn : 0 ≤ n ∧ n ≤ 8) (ha : 0 ≤ a ∧ a ≤ 120) (hb : 0 ≤ b ∧ b ≤ 120) (vr : VR G V) : cpI 2 (bi (isBf V M n a b)) 167 [(4, (M : Int)), (0, a), (0, b), (0, n)] G R V := by
  have v32 : ∀ x, 0 ≤ x → x < 1000 → i32 (V (M + 7) x) := fun x h1 h2 => vr_a0 vr (ly8_9 ly).2 ⟨h1, by omega⟩
  refine c_X8_isBefore (t_X8_isBefore_0 ly ?_)
  refine loopI (f := fun x : Int => [some (4, (M : Int)), some (0, a), some (0, b), some (0, n), some (0, x)]) (g := fun _ => V) (Inv := fun x => 0 ≤ x ∧ x ≤ n ∧ ∀ q, 0 ≤ q → q < x → V (M + 7) (8 * a + q) = V (M + 7) (8 * b + q)) (μ := fun x => (n - x).toNat) (fun x hx ih => ?_) 0 ⟨by omega, by omega, fun q h1 h2 => by omega⟩
  obtain ⟨h0, h1, h2⟩ := hx
  have va := v32 (8 * a + x)
  have vb := v32 (8 * b + x)
  refine t_X8_isBefore_3 ly ⟨by omega, by omega, fun c => ⟨?_, rfl⟩, fun c => ?_⟩
  · rw [bi_f]
    rintro ⟨p, h3, h4, h5, h6⟩
    have := h2 p h3 (by omega)
    omega
  · refine cpI_u (Nat.le_refl _) (newPlace_c ly (by omega) (by omega)) (cpI_u (Nat.le_refl _) (newPlace_c ly (by omega) (by omega)) ⟨va (by omega) (by omega), vb (by omega) (by omega), fun e => ⟨by omega, ih (x + 1) ⟨by omega, by omega, fun q h3 h4 => ?_⟩ (by omega)⟩, fun e => ?_⟩)
    · by_cases hq : q = x
      · rw [hq]; exact e
      · exact h2 q h3 (by omega)
    · refine cpI_u (Nat.le_refl _) (newPlace_c ly (by omega) (by omega)) (cpI_u (Nat.le_refl _) (newPlace_c ly (by omega) (by omega)) ⟨va (by omega) (by omega), vb (by omega) (by omega), fun c2 => ⟨?_, rfl⟩, fun c2 => ⟨?_, rfl⟩⟩)
      · rw [bi_f]
        rintro ⟨p, h3, h4, h5, h6⟩
        by_cases hp : p < x
        · have := h2 p h3 hp; omega
        · by_cases hp2 : p = x
          · subst hp2; omega
          · have := h6 x h0 (by omega)
            exact e this
      · rw [bi_t ⟨x, h0, c, c2, h2⟩]
end
section
variable {K : gK} {d : Nat} {P : gP} {pc : Nat} {G : List gS} {R : gV}
theorem loop1 {f : Int → gL} (Inv : Int → gV → Prop) (μ : Int → gV → Nat) (H : ∀ x V, Inv x V → (∀ y V', Inv y V' → μ y V' < μ x V → wpv K d P pc (f y) [] G R V') → wpv K d P pc (f x) [] G R V) (x : Int) (V : gV) (h : Inv x V) : wpv K d P pc (f x) [] G R V :=
  loopI (f := fun x : Int × gV => f x.1) (g := fun x => x.2) (fun x => Inv x.1 x.2) (fun x => μ x.1 x.2) (fun x hx ih => H x.1 x.2 hx (fun y V' hy hm => ih (y, V') hy hm)) (x, V) h
theorem loop2 {f : Int → Int → gL} (Inv : Int → Int → gV → Prop) (μ : Int → Int → gV → Nat) (H : ∀ x y V, Inv x y V → (∀ x' y' V', Inv x' y' V' → μ x' y' V' < μ x y V → wpv K d P pc (f x' y') [] G R V') → wpv K d P pc (f x y) [] G R V) (x y : Int) (V : gV) (h : Inv x y V) : wpv K d P pc (f x y) [] G R V :=
  loopI (f := fun x : Int × Int × gV => f x.1 x.2.1) (g := fun x => x.2.2) (fun x => Inv x.1 x.2.1 x.2.2) (fun x => μ x.1 x.2.1 x.2.2) (fun x hx ih => H x.1 x.2.1 x.2.2 hx (fun x' y' V' hy hm => ih (x', y', V') hy hm)) (x, y, V) h
theorem loop3 {f : Int → Int → Int → gL} (Inv : Int → Int → Int → gV → Prop) (μ : Int → Int → Int → gV → Nat) (H : ∀ x y z V, Inv x y z V → (∀ x' y' z' V', Inv x' y' z' V' → μ x' y' z' V' < μ x y z V → wpv K d P pc (f x' y' z') [] G R V') → wpv K d P pc (f x y z) [] G R V) (x y z : Int) (V : gV) (h : Inv x y z V) : wpv K d P pc (f x y z) [] G R V :=
  loopI (f := fun x : Int × Int × Int × gV => f x.1 x.2.1 x.2.2.1) (g := fun x => x.2.2.2) (fun x => Inv x.1 x.2.1 x.2.2.1 x.2.2.2) (fun x => μ x.1 x.2.1 x.2.2.1 x.2.2.2) (fun x hx ih => H x.1 x.2.1 x.2.2.1 x.2.2.2 hx (fun x' y' z' V' hy hm => ih (x', y', z', V') hy hm)) (x, y, z, V) h
/-- loops that write nothing -/
theorem pool1 {V : gV} {f : Int → gL} (Inv : Int → Prop) (μ : Int → Nat) (H : ∀ x, Inv x → (∀ y, Inv y → μ y < μ x → wpv K d P pc (f y) [] G R V) → wpv K d P pc (f x) [] G R V) (x : Int) (h : Inv x) : wpv K d P pc (f x) [] G R V :=
  loopI (f := f) (g := fun _ => V) Inv μ H x h
theorem pool2 {V : gV} {f : Int → Int → gL} (Inv : Int → Int → Prop) (μ : Int → Int → Nat) (H : ∀ x y, Inv x y → (∀ x' y', Inv x' y' → μ x' y' < μ x y → wpv K d P pc (f x' y') [] G R V) → wpv K d P pc (f x y) [] G R V) (x y : Int) (h : Inv x y) : wpv K d P pc (f x y) [] G R V :=
  loopI (f := fun x : Int × Int => f x.1 x.2) (g := fun _ => V) (fun x => Inv x.1 x.2) (fun x => μ x.1 x.2) (fun x hx ih => H x.1 x.2 hx (fun x' y' hy hm => ih (x', y') hy hm)) (x, y) h
theorem pool3 {V : gV} {f : Int → Int → Int → gL} (Inv : Int → Int → Int → Prop) (μ : Int → Int → Int → Nat) (H : ∀ x y z, Inv x y z → (∀ x' y' z', Inv x' y' z' → μ x' y' z' < μ x y z → wpv K d P pc (f x' y' z') [] G R V) → wpv K d P pc (f x y z) [] G R V) (x y z : Int) (h : Inv x y z) : wpv K d P pc (f x y z) [] G R V :=
  loopI (f := fun x : Int × Int × Int => f x.1 x.2.1 x.2.2) (g := fun _ => V) (fun x => Inv x.1 x.2.1 x.2.2) (fun x => μ x.1 x.2.1 x.2.2) (fun x hx ih => H x.1 x.2.1 x.2.2 hx (fun x' y' z' hy hm => ih (x', y', z') hy hm)) (x, y, z) h
end
