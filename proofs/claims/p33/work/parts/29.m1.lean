section
variable {d : Nat} {G : List gS} {R V : gV} {M : Nat}
/-- two rows of new images are one on n places -/
def rowEq (V : gV) (M : Nat) (n a b : Int) : Prop := ∀ p, 0 ≤ p → p < n → V (M + 7) (8 * a + p) = V (M + 7) (8 * b + p)
theorem isNews_c (ly : lay8 G R M) {n : Int} (hn : 0 ≤ n ∧ n ≤ 8) (ht : 0 ≤ V M 10 ∧ V M 10 ≤ 120) (vr : VR G V) : cpI 2 (bi (∀ k, 0 ≤ k → k < V M 10 → ¬ rowEq V M n k (V M 10))) 165 [(4, (M : Int)), (0, n)] G R V := by
  have v32 : ∀ x, 0 ≤ x → x < 1000 → i32 (V (M + 7) x) := fun x h1 h2 => vr_a0 vr (ly8_9 ly).2 ⟨h1, by omega⟩
  refine c_X8_isNews (t_X8_isNews_0 ly ?_)
  refine loopI (f := fun x : Int => [some (4, (M : Int)), some (0, n), some (0, x)]) (g := fun _ => V) (Inv := fun x => 0 ≤ x ∧ x ≤ V M 10 ∧ ∀ k, 0 ≤ k → k < x → ¬ rowEq V M n k (V M 10)) (μ := fun x => (V M 10 - x).toNat) (fun x hx ih => ?_) 0 ⟨by omega, by omega, fun q h1 h2 => by omega⟩
  obtain ⟨h0, h1, h2⟩ := hx
  refine t_X8_isNews_2 ly (fun _ => ⟨by omega, fun c => ⟨?_, rfl⟩, fun c => ?_⟩)
  · rw [bi_t (fun k k0 k1 => h2 k k0 (by omega))]
  refine loopI (f := fun y : Int × Int => [some (4, (M : Int)), some (0, n), some (0, x), some (0, y.1), some (0, y.2)]) (g := fun _ => V) (Inv := fun y => 0 ≤ y.2 ∧ y.2 ≤ n ∧ y.1 = bi (∀ p, 0 ≤ p → p < y.2 → V (M + 7) (8 * x + p) = V (M + 7) (8 * V M 10 + p))) (μ := fun y => (n - y.2).toNat) (fun y hy ih2 => ?_) (1, 0) ⟨by omega, by omega, ?_⟩
  · obtain ⟨s, p⟩ := y
    obtain ⟨k0, k1, k2⟩ := hy
    dsimp only at k0 k1 k2 ih2 ⊢
    have s32 : i32 s := by rw [k2]; exact bi32 _
    have va := v32 (8 * x + p)
    have vb := v32 (8 * V M 10 + p)
    refine t_X8_isNews_15 ly ⟨by omega, by omega, fun c2 => ⟨s32, fun c3 => ⟨by omega, ih (x + 1) ⟨by omega, by omega, fun k q0 q1 => ?_⟩ (by omega)⟩, fun c3 => ⟨?_, rfl⟩⟩, fun c2 => ⟨s32, fun c3 => ⟨by omega, ih2 (0, p + 1) ⟨by omega, by omega, ?_⟩ (by omega)⟩, fun c3 => ?_⟩⟩
    · by_cases e : k = x
      · subst e
        rw [k2, bi_0] at c3
        intro z
        exact c3 (fun p' p0 p1 => z p' p0 (by omega))
      · exact h2 k q0 (by omega)
    · have k3 : s = 1 := by rcases bi_01 (∀ p', 0 ≤ p' → p' < p → V (M + 7) (8 * x + p') = V (M + 7) (8 * V M 10 + p')) with z | z <;> omega
      rw [k2, bi_1] at k3
      rw [bi_f]
      intro z
      exact z x h0 c (fun p' p0 p1 => k3 p' p0 (by omega))
    · rw [c3] at k2
      have k2 := bi_0.mp k2.symm
      rw [bi_f]
      intro z
      exact k2 (fun p' p0 p1 => z p' p0 (by omega))
    · have k3 : s = 1 := by rcases bi_01 (∀ p', 0 ≤ p' → p' < p → V (M + 7) (8 * x + p') = V (M + 7) (8 * V M 10 + p')) with z | z <;> omega
      rw [k2, bi_1] at k3
      refine cpI_u (Nat.le_refl _) (newPlace_c ly (by omega) (by omega)) (fun _ => cpI_u (Nat.le_refl _) (newPlace_c ly (by omega) (by omega)) ⟨va (by omega) (by omega), vb (by omega) (by omega), fun e => ⟨by omega, ih2 (0, p + 1) ⟨by omega, by omega, ?_⟩ (by omega)⟩, fun e => ⟨by omega, ih2 (1, p + 1) ⟨by omega, by omega, ?_⟩ (by omega)⟩⟩)
      · rw [bi_f]
        intro z
        exact e (z p k0 (by omega))
      · rw [bi_t]
        intro p' p0 p1
        by_cases q : p' = p
        · rw [q]; exact e
        · exact k3 p' p0 (by omega)
  · rw [bi_t]
    intro p p0 p1
    dsimp only at p1
    omega
/-! the sheets as orders of places -/
def shp (V : gV) (M : Nat) (s q : Int) : Int := if q < V (M + 2) s then V (M + 3) (8 * s + q) else q
/-- what the model's sheets keep to -/
def shOK (V : gV) (M : Nat) : Prop := ∀ s, 0 ≤ s → s < 4 → -1 ≤ V (M + 2) s ∧ V (M + 2) s ≤ 8
theorem bits1 : ∀ x : Fin 256, ∀ t q : Fin 8, (decide (kand (kshr (kor ((x.val : Nat) : Int) (kshl 1 ((t.val : Nat) : Int))) ((q.val : Nat) : Int)) 1 = 1) = (decide (q = t) || decide (kand (kshr ((x.val : Nat) : Int) ((q.val : Nat) : Int)) 1 = 1))) ∧ 0 ≤ kor ((x.val : Nat) : Int) (kshl 1 ((t.val : Nat) : Int)) ∧ kor ((x.val : Nat) : Int) (kshl 1 ((t.val : Nat) : Int)) < 256 := by decide +kernel
theorem bits {x t q : Int} (hx : 0 ≤ x ∧ x < 256) (ht : 0 ≤ t ∧ t < 8) (hq : 0 ≤ q ∧ q < 8) : (kand (kshr (kor x (kshl 1 t)) q) 1 = 1 ↔ (q = t ∨ kand (kshr x q) 1 = 1)) ∧ 0 ≤ kor x (kshl 1 t) ∧ kor x (kshl 1 t) < 256 := by
  have h := bits1 ⟨x.toNat, by omega⟩ ⟨t.toNat, by omega⟩ ⟨q.toNat, by omega⟩
  simp only [Int.toNat_of_nonneg hx.1, Int.toNat_of_nonneg ht.1, Int.toNat_of_nonneg hq.1] at h
  refine ⟨?_, h.2⟩
  have h1 := h.1
  have e : (decide ((⟨q.toNat, by omega⟩ : Fin 8) = ⟨t.toNat, by omega⟩)) = decide (q = t) := by
    by_cases z : q = t
    · subst z; simp
    · have : ¬ q.toNat = t.toNat := by omega
      simp [z, this]
  rw [e] at h1
  constructor
  · intro z
    rw [decide_eq_true z] at h1
    have := h1.symm
    simpa using this
  · intro z
    have : (decide (q = t) || decide (kand (kshr x q) 1 = 1)) = true := by simpa using z
    rw [this] at h1
    exact of_decide_eq_true h1
theorem bits0 : ∀ q : Fin 8, ¬ (kand (kshr 0 ((q.val : Nat) : Int)) 1 = 1) := by decide +kernel
end
