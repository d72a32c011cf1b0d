section
variable {d : Nat} {G : List gS} {R V : gV} {M : Nat}
theorem find_c (ly : lay8 G R M) (g : GR (fun i => V (M + 4) i) (V M 4) (V M 5)) (st : srt (fun i => V (M + 4) i) (V M 4) (V M 5)) {s t : Int} (s0 : 0 ≤ s ∧ s < V M 5) (t0 : 0 ≤ t ∧ t < V M 5) : cwv 1 (fun r V' => ∃ k, r = some (0, k) ∧ (V' = V ∧ 0 ≤ k ∧ k < V M 5 ∧ ∀ p, 0 ≤ p → p < V M 4 → V (M + 4) (8 * k + p) = V (M + 4) (8 * t + V (M + 4) (8 * s + p)))) 169 [(4, (M : Int)), (0, s), (0, t)] G R V := by
  obtain ⟨g1, g2, g3, g4, g5, g6, g7, g8, g9⟩ := g
  obtain ⟨k, k0, k1, hk⟩ := g9 s t s0.1 s0.2 t0.1 t0.2
  refine c_X8_find (t_X8_find_0 ly (fun _ => ⟨by omega, ?_⟩))
  refine pool2 (f := fun x y => [some (4, (M : Int)), some (0, s), some (0, t), some (0, x), some (0, y)]) (fun x y => 0 ≤ x ∧ x ≤ k ∧ k ≤ y ∧ y < V M 5) (fun x y => (y - x).toNat) (fun lo hi hx ih => ?_) 0 (V M 5 - 1) ⟨by omega, by omega, by omega, by omega⟩
  obtain ⟨l0, l1, l2, l3⟩ := hx
  refine t_X8_find_10 ly ⟨by omega, by omega, fun c => ⟨lo, rfl, rfl, by omega, by omega, ?_⟩, fun c => ⟨by omega, by omega, ?_⟩⟩
  · have : lo = k := by omega
    rw [this]; exact hk
  have m0 : lo ≤ (lo + hi) / 2 ∧ (lo + hi) / 2 < hi := by omega
  generalize (lo + hi) / 2 = m at m0
  have out : ∀ c : Int, ((c = 0 ∧ ∀ q, 0 ≤ q → q < V M 4 → V (M + 4) (8 * m + q) = V (M + 4) (8 * k + q)) ∨ (∃ q, 0 ≤ q ∧ q < V M 4 ∧ c = V (M + 4) (8 * m + q) - V (M + 4) (8 * k + q) ∧ ¬ c = 0 ∧ ∀ r, 0 ≤ r → r < q → V (M + 4) (8 * m + r) = V (M + 4) (8 * k + r))) → (¬ c < 0 → k ≤ m) ∧ (c < 0 → m < k) := by
    intro c hc
    refine ⟨fun h => ?_, fun h => ?_⟩
    · apply Classical.byContradiction
      intro z
      have w := st m k (by omega) (by omega) k1
      rcases hc with ⟨e, hc⟩ | ⟨q, q0, q1, q2, q3, q4⟩
      · obtain ⟨p, p0, p1, p2, p3⟩ := w
        have := hc p p0 p1
        dsimp only at p2
        omega
      · exact lx_irr (lx_tr (f := fun i => V (M + 4) i) (n := V M 4) (a := k) (b := m) (c := k) ⟨q, q0, q1, by dsimp only; omega, fun r r0 r1 => (q4 r r0 r1).symm⟩ w)
    · apply Classical.byContradiction
      intro z
      rcases hc with ⟨e, hc⟩ | ⟨q, q0, q1, q2, q3, q4⟩
      · omega
      · have w : lx (fun i => V (M + 4) i) (V M 4) m k := ⟨q, q0, q1, by dsimp only; omega, q4⟩
        by_cases e : m = k
        · rw [e] at w; exact lx_irr w
        · exact lx_irr (lx_tr w (st k m k0 (by omega) (by omega)))
  refine pool2 (f := fun x y => [some (4, (M : Int)), some (0, s), some (0, t), some (0, lo), some (0, hi), some (0, m), some (0, x), some (0, y)]) (fun c p => 0 ≤ p ∧ p ≤ V M 4 ∧ ((c = 0 ∧ ∀ q, 0 ≤ q → q < p → V (M + 4) (8 * m + q) = V (M + 4) (8 * k + q)) ∨ (∃ q, 0 ≤ q ∧ q < p ∧ c = V (M + 4) (8 * m + q) - V (M + 4) (8 * k + q) ∧ ¬ c = 0 ∧ ∀ r, 0 ≤ r → r < q → V (M + 4) (8 * m + r) = V (M + 4) (8 * k + r)))) (fun _ p => (V M 4 - p).toNat) (fun c2 p hx ih2 => ?_) 0 0 ⟨by omega, by omega, Or.inl ⟨rfl, fun q q0 q1 => by omega⟩⟩
  obtain ⟨p0, p1, hc⟩ := hx
  have c32 : i32 c2 := by
    rcases hc with ⟨e, _⟩ | ⟨q, q0, q1, q2, _⟩
    · omega
    · have a := g5 m q (by omega) (by omega) q0 (by omega)
      have b := g5 k q k0 k1 q0 (by omega)
      dsimp only at a b
      omega
  have fin : ((c2 = 0 ∧ ∀ q, 0 ≤ q → q < V M 4 → V (M + 4) (8 * m + q) = V (M + 4) (8 * k + q)) ∨ (∃ q, 0 ≤ q ∧ q < V M 4 ∧ c2 = V (M + 4) (8 * m + q) - V (M + 4) (8 * k + q) ∧ ¬ c2 = 0 ∧ ∀ r, 0 ≤ r → r < q → V (M + 4) (8 * m + r) = V (M + 4) (8 * k + r))) → ((¬ c2 < 0 → wpv K_X8_find 0 (fun r V' => ∃ k, r = some (0, k) ∧ (V' = V ∧ 0 ≤ k ∧ k < V M 5 ∧ ∀ p, 0 ≤ p → p < V M 4 → V (M + 4) (8 * k + p) = V (M + 4) (8 * t + V (M + 4) (8 * s + p)))) 10 [some (4, (M : Int)), some (0, s), some (0, t), some (0, lo), some (0, m)] [] G R V) ∧ (c2 < 0 → (i32 (m + 1) ∧ wpv K_X8_find 0 (fun r V' => ∃ k, r = some (0, k) ∧ (V' = V ∧ 0 ≤ k ∧ k < V M 5 ∧ ∀ p, 0 ≤ p → p < V M 4 → V (M + 4) (8 * k + p) = V (M + 4) (8 * t + V (M + 4) (8 * s + p)))) 10 [some (4, (M : Int)), some (0, s), some (0, t), some (0, m + 1), some (0, hi)] [] G R V))) := by
    intro w
    have o := out c2 w
    exact ⟨fun z => ih lo m ⟨l0, l1, o.1 z, by omega⟩ (by omega), fun z => ⟨by omega, ih (m + 1) hi ⟨by omega, by have := o.2 z; omega, l2, l3⟩ (by omega)⟩⟩
  refine t_X8_find_30 ly (fun _ => ⟨by omega, fun z => ⟨c32, fin ?_⟩, fun z => ⟨c32, fun z2 => fin ?_, fun z2 => ?_⟩⟩)
  · have : p = V M 4 := by omega
    rw [← this]; exact hc
  · rcases hc with ⟨e, _⟩ | ⟨q, q0, q1, q2⟩
    · exact absurd e z2
    · exact Or.inr ⟨q, q0, by omega, q2⟩
  · have a := g5 s p s0.1 s0.2 p0 z
    have b := g5 t _ t0.1 t0.2 a.1 a.2
    have c3 := g5 m p (by omega) (by omega) p0 z
    dsimp only at a b c3
    have hk' := hk p p0 z
    dsimp only at hk'
    have he : ∀ q, 0 ≤ q → q < p → V (M + 4) (8 * m + q) = V (M + 4) (8 * k + q) := by
      rcases hc with ⟨_, e⟩ | ⟨q, q0, q1, q2, q3, q4⟩
      · exact e
      · exact absurd z2 q3
    refine ⟨by omega, by omega, by omega, fun _ => ⟨by omega, by omega, by omega, by omega, fun _ => ⟨by omega, by omega, fun _ => ⟨by omega, by omega, ih2 _ (p + 1) ⟨by omega, by omega, ?_⟩ (by omega)⟩⟩⟩⟩
    by_cases e : V (M + 4) (8 * m + p) - V (M + 4) (8 * t + V (M + 4) (8 * s + p)) = 0
    · left
      refine ⟨e, fun q q0 q1 => ?_⟩
      by_cases q2 : q = p
      · rw [q2]; omega
      · exact he q q0 (by omega)
    · right
      exact ⟨p, p0, by omega, by rw [hk'], e, he⟩
end
