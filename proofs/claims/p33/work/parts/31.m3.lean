section
variable {d : Nat} {G : List gS} {R V : gV} {M : Nat}
theorem gathers_2 (ly : lay8 G R M) {V0 : gV} {n : Int} (hn : 1 ≤ n ∧ n ≤ 8) (hs : shOK V0 M) (hp : ∀ s, 0 ≤ s → s < 4 → pOK V0 M n s) : wpv K_X8_gathers 2 (fun r V' => ∃ v, r = some (0, v) ∧ gaP V0 V' M n v) 96 [some (4, (M : Int)), some (0, n), some (0, 0)] [] G R V0 := by
  refine loop1 (f := fun x => [some (4, (M : Int)), some (0, n), some (0, x)]) (fun x V => 0 ≤ x ∧ x ≤ 8 ∧ gaF V0 V M ∧ ∀ p, 0 ≤ p → p < x → V (M + 7) p = p) (fun x _ => (8 - x).toNat) (fun x V hx ih => ?_) 0 V0 ⟨by omega, by omega, fun _ _ _ _ => rfl, fun p h1 h2 => by omega⟩
  obtain ⟨x0, x1, fr, hr⟩ := hx
  refine t_X8_gathers_96 ly ⟨by omega, fun c => ?_, fun c => ⟨by omega, by omega, ih (x + 1) _ ⟨by omega, by omega, fun a i e1 e2 => ?_, fun p p0 p1 => ?_⟩ (by omega)⟩⟩
  · have w7 : ∀ i, wr V M 10 1 (M + 7) i = V (M + 7) i := fun i => wr_a (by omega)
    have wN : wr V M 10 1 M 10 = 1 := wr_same V M 10 1
    refine gathers_3 ly hn hs hp (0, wr V M 10 1) ⟨by omega, by dsimp only; rw [wN]; omega, ⟨?_, ?_, ?_, ?_, ?_, ?_, ?_⟩, ?_⟩
    · intro a i e1 e2
      show wr V M 10 1 a i = _
      rw [wr_ne e2]; exact fr a i e1 e2
    · dsimp only; rw [wN]; omega
    · dsimp only; rw [wN]; omega
    · dsimp only
      intro j p a1 a2 a3 a4
      rw [wN] at a2
      have : j = 0 := by omega
      subst this
      rw [w7, show 8 * (0 : Int) + p = p by omega, hr p a3 (by omega)]
      omega
    · dsimp only
      intro p a3 a4
      rw [w7, hr p a3 (by omega)]
    · dsimp only
      intro i j a1 a2 a3
      rw [wN] at a3
      omega
    · dsimp only
      intro j a1 a2
      rw [wN] at a2
      omega
    · dsimp only
      intro k s a1 a2 a3 a4
      omega
  · rw [wr_a e1]; exact fr a i e1 e2
  · by_cases e : p = x
    · rw [e, wr_same]
    · rw [wr_i e]; exact hr p p0 (by omega)
theorem gathers_c (ly : lay8 G R M) {n : Int} (hn : 1 ≤ n ∧ n ≤ 8) (hs : shOK V M) (vr : VR G V) : cwv 3 (fun r V' => ∃ v, r = some (0, v) ∧ gaP V V' M n v) 166 [(4, (M : Int)), (0, n)] G R V := by
  refine c_X8_gathers (t_X8_gathers_0 ly ?_)
  refine pool1 (f := fun x => [some (4, (M : Int)), some (0, n), some (0, x)]) (fun x => 0 ≤ x ∧ x ≤ 4 ∧ ∀ s, 0 ≤ s → s < x → pOK V M n s) (fun x => (4 - x).toNat) (fun s hx ih => ?_) 0 ⟨by omega, by omega, fun s h1 h2 => by omega⟩
  obtain ⟨s0, s1, hp⟩ := hx
  refine t_X8_gathers_2 ly ⟨by omega, fun c => gathers_2 ly hn hs (fun s' h1 h2 => hp s' h1 (by omega)), fun c => ?_⟩
  have sz := hs s s0 c
  refine pool2 (f := fun x y => [some (4, (M : Int)), some (0, n), some (0, s), some (0, x), some (0, y)]) (fun x p => 0 ≤ x ∧ x < 256 ∧ 0 ≤ p ∧ p ≤ n ∧ (∀ q, 0 ≤ q → q < 8 → (kand (kshr x q) 1 = 1 ↔ ∃ p', 0 ≤ p' ∧ p' < p ∧ shp V M s p' = q)) ∧ (∀ p', 0 ≤ p' → p' < p → 0 ≤ shp V M s p' ∧ shp V M s p' < n) ∧ (∀ p1 p2, 0 ≤ p1 → p1 < p → 0 ≤ p2 → p2 < p → shp V M s p1 = shp V M s p2 → p1 = p2)) (fun _ p => (n - p).toNat) (fun x p hx ih2 => ?_) 0 0 ⟨by omega, by omega, by omega, by omega, fun q q0 q1 => ⟨fun z => absurd z ?_, fun z => ?_⟩, fun p' h1 h2 => by omega, fun p1 p2 h1 h2 => by omega⟩
  · obtain ⟨x0, x1, p0, p1, hb, hr, hi⟩ := hx
    have nx : ∀ to, to = shp V M s p → p < n → i32 to → cwv 2 (fun r V8 => ∃ v9 : Int, r = some (0, v9) ∧ ((i32 v9) ∧ (((v9 = 0) → (∃ v, some (0, (-6)) = some ((0 : Nat), v) ∧ gaP V V8 M n v)) ∧ ((¬ v9 = 0) → (((¬ (kand ((kshr x to)) 1) = 1) → ((i32 (p + 1)) ∧ wpv K_X8_gathers 2 (fun r V' => ∃ v, r = some (0, v) ∧ gaP V V' M n v) 12 [some (4, (M : Int)), some (0, n), some (0, s), some (0, (kor x ((kshl 1 to)))), some (0, (p + 1))] [] G R V8)) ∧ (((kand ((kshr x to)) 1) = 1) → (∃ v, some (0, (-6)) = some ((0 : Nat), v) ∧ gaP V V8 M n v))))))) 159 [(2, to), (2, 0), (2, (n - 1))] G R V := by
      intro to ht pn t32
      refine cpI_u (Nat.le_add_right 1 1) (in_c (i32_64 t32) ⟨by omega, by omega⟩ ⟨by omega, by omega⟩) ⟨bi32 _, fun z0 => ⟨-6, rfl, fun _ _ _ _ => rfl, Or.inr (Or.inl rfl), Or.inl ⟨rfl, fun q => ?_⟩⟩, fun z => ?_⟩
      · have w := (q s s0 c).1 p p0 pn
        rw [← ht] at w
        exact bi_0.mp z0 ⟨w.1, by omega⟩
      have z2 : 0 ≤ to ∧ to ≤ n - 1 := by
        rcases bi_01 (0 ≤ to ∧ to ≤ n - 1) with q | q
        · exact absurd q z
        · exact bi_1.mp q
      have no6 : kand (kshr x to) 1 = 1 → ¬ ∀ s, 0 ≤ s → s < 4 → pOK V M n s := by
        intro z3 q
        obtain ⟨p', w1, w2, w3⟩ := (hb to z2.1 (by omega)).mp z3
        have := (q s s0 c).2 p' p w1 (by omega) p0 pn (by rw [w3, ht])
        omega
      refine ⟨fun z3 => ⟨by omega, ?_⟩, fun z3 => ⟨-6, rfl, fun _ _ _ _ => rfl, Or.inr (Or.inl rfl), Or.inl ⟨rfl, no6 z3⟩⟩⟩
      have b0 := bits (x := x) (t := to) (q := 0) ⟨x0, x1⟩ (by omega) (by omega)
      refine ih2 _ (p + 1) ⟨b0.2.1, b0.2.2, by omega, by omega, fun q q0 q1 => ?_, fun p' h1 h2 => ?_, fun p1 p2 h1 h2 h3 h4 h5 => ?_⟩ (by omega)
      · have b := (bits (x := x) (t := to) (q := q) ⟨x0, x1⟩ (by omega) ⟨q0, q1⟩).1
        rw [b, hb q q0 q1]
        constructor
        · intro w
          rcases w with w | ⟨p', w1, w2, w3⟩
          · exact ⟨p, p0, by omega, by rw [← ht, w]⟩
          · exact ⟨p', w1, by omega, w3⟩
        · intro w
          obtain ⟨p', w1, w2, w3⟩ := w
          by_cases e : p' = p
          · left; rw [← w3, e, ht]
          · right; exact ⟨p', w1, by omega, w3⟩
      · by_cases e : p' = p
        · rw [e, ← ht]; omega
        · exact hr p' h1 (by omega)
      · have no : ∀ p', 0 ≤ p' → p' < p → shp V M s p' ≠ to := fun p' w1 w2 w3 => z3 ((hb to z2.1 (by omega)).mpr ⟨p', w1, w2, w3⟩)
        by_cases e1 : p1 = p
        · by_cases e2 : p2 = p
          · omega
          · exfalso
            rw [e1, ← ht] at h5
            exact no p2 h3 (by omega) h5.symm
        · by_cases e2 : p2 = p
          · exfalso
            rw [e2, ← ht] at h5
            exact no p1 h1 (by omega) h5
          · exact hi p1 p2 h1 (by omega) h3 (by omega) h5
    refine t_X8_gathers_12 ly ⟨by omega, by omega, fun c2 => ⟨by omega, ih (s + 1) ⟨by omega, by omega, fun s' h1 h2 => ?_⟩ (by omega)⟩, fun c2 => ⟨by omega, fun _ => ⟨fun c3 => ⟨by omega, nx p (by unfold shp; rw [if_neg c3]) c2 (by omega)⟩, fun c3 => ⟨by omega, by omega, by omega, fun t32 => ⟨by omega, nx _ (by unfold shp; rw [if_pos c3]) c2 t32⟩⟩⟩⟩⟩
    by_cases e : s' = s
    · rw [e]
      have pn : p = n := by omega
      subst pn
      exact ⟨hr, hi⟩
    · exact hp s' h1 (by omega)
  · exact by
      have := bits0 ⟨q.toNat, by omega⟩
      simp only [Int.toNat_of_nonneg q0] at this
      exact this
  · obtain ⟨p', h1, h2, _⟩ := z
    omega
end
