/-! the order of heaps -/
theorem rqs {N : Int} {A B : Int → Int} (h : req N A B) : req N B A := fun t t0 t1 => (h t t0 t1).symm
theorem rqt {N : Int} {A B C : Int → Int} (h : req N A B) (h2 : req N B C) : req N A C := fun t t0 t1 => (h t t0 t1).trans (h2 t t0 t1)
theorem rqm {N : Int} {A B : Int → Int} (h : req N A B) : sm A N.toNat = sm B N.toNat := sm_congr (fun i i0 i1 => h i i0 (by omega))
/-- at the least turn in which they differ, A has it -/
def ahL (N : Int) (A B : Int → Int) : Prop := ∃ t, 0 ≤ t ∧ t < N ∧ A t = 1 ∧ B t = 0 ∧ ∀ u, 0 ≤ u → u < t → A u = B u
def ahd (N : Int) (A B : Int → Int) : Prop := sm A N.toNat < sm B N.toNat ∨ (sm A N.toNat = sm B N.toNat ∧ ahL N A B)
section
variable {N : Int} {A B C : Int → Int}
theorem ah_irr (e : req N A B) : ¬ ahd N A B := by
  intro h
  have es : sm A N.toNat = sm B N.toNat := rqm e
  rcases h with h | ⟨_, t, t0, t1, h1, h2, _⟩
  · omega
  · have := e t t0 t1
    omega
theorem ah_tr (h : ahd N A B) (h' : ahd N B C) : ahd N A C := by
  rcases h with h | ⟨h, t, t0, t1, h1, h2, h3⟩
  · rcases h' with h' | ⟨h', _⟩
    · exact Or.inl (by omega)
    · exact Or.inl (by omega)
  · rcases h' with h' | ⟨h', u, u0, u1, k1, k2, k3⟩
    · exact Or.inl (by omega)
    · refine Or.inr ⟨by omega, ?_⟩
      by_cases y : t < u
      · exact ⟨t, t0, t1, h1, by rw [← k3 t t0 y]; exact h2, fun w w0 w1 => by rw [h3 w w0 w1, k3 w w0 (by omega)]⟩
      · by_cases y2 : t = u
        · rw [y2] at h2; omega
        · exact ⟨u, u0, u1, by rw [h3 u u0 (by omega)]; exact k1, k2, fun w w0 w1 => by rw [h3 w w0 (by omega), k3 w w0 w1]⟩
theorem ah_tot (a01 : ∀ t, 0 ≤ t → t < N → A t = 0 ∨ A t = 1) (b01 : ∀ t, 0 ≤ t → t < N → B t = 0 ∨ B t = 1) (ne : ¬ req N A B) : ahd N A B ∨ ahd N B A := by
  have least : ∀ (w : Nat) (t : Int), 0 ≤ t → t < N → A t ≠ B t → t.toNat = w → ∃ t', 0 ≤ t' ∧ t' < N ∧ A t' ≠ B t' ∧ ∀ u, 0 ≤ u → u < t' → A u = B u := by
    intro w
    induction w using Nat.strongRecOn with
    | ind w ih =>
      intro t t0 t1 h tw
      by_cases q : ∀ u, 0 ≤ u → u < t → A u = B u
      · exact ⟨t, t0, t1, h, q⟩
      · obtain ⟨u, q⟩ := Classical.not_forall.mp q
        obtain ⟨q1, q⟩ := Classical.not_imp.mp q
        obtain ⟨q2, q3⟩ := Classical.not_imp.mp q
        exact ih u.toNat (by omega) u q1 (by omega) q3 rfl
  by_cases s : sm A N.toNat = sm B N.toNat
  · have ex : ∃ t, 0 ≤ t ∧ t < N ∧ A t ≠ B t := by
      apply Classical.byContradiction
      intro q
      refine ne (fun t t0 t1 => ?_)
      apply Classical.byContradiction
      intro z
      exact q ⟨t, t0, t1, z⟩
    obtain ⟨t, t0, t1, h⟩ := ex
    obtain ⟨t', p0, p1, p2, p3⟩ := least _ t t0 t1 h rfl
    rcases a01 t' p0 p1 with z | z
    · rcases b01 t' p0 p1 with z2 | z2
      · omega
      · exact Or.inr (Or.inr ⟨s.symm, t', p0, p1, z2, z, fun u u0 u1 => (p3 u u0 u1).symm⟩)
    · rcases b01 t' p0 p1 with z2 | z2
      · exact Or.inl (Or.inr ⟨s, t', p0, p1, z, z2, p3⟩)
      · omega
  · by_cases s2 : sm A N.toNat < sm B N.toNat
    · exact Or.inl (Or.inl s2)
    · exact Or.inr (Or.inl (by omega))
theorem ah_congr {A' B' : Int → Int} (ea : req N A A') (eb : req N B B') (h : ahd N A B) : ahd N A' B' := by
  have sa : sm A N.toNat = sm A' N.toNat := rqm ea
  have sb : sm B N.toNat = sm B' N.toNat := rqm eb
  rcases h with h | ⟨h, t, t0, t1, h1, h2, h3⟩
  · exact Or.inl (by omega)
  · exact Or.inr ⟨by omega, t, t0, t1, by rw [← ea t t0 t1]; exact h1, by rw [← eb t t0 t1]; exact h2, fun u u0 u1 => by rw [← ea u u0 (by omega), ← eb u u0 (by omega)]; exact h3 u u0 u1⟩
/-- two lists of the same sets, in this order, are the same list -/
theorem ah_uni {K K' : Int} {S S' : Int → Int → Int} (h : ∀ i j, 0 ≤ i → i < j → j < K → ahd N (S i) (S j)) (h' : ∀ i j, 0 ≤ i → i < j → j < K' → ahd N (S' i) (S' j)) (c1 : ∀ i, 0 ≤ i → i < K → ∃ j, 0 ≤ j ∧ j < K' ∧ req N (S' j) (S i)) (c2 : ∀ j, 0 ≤ j → j < K' → ∃ i, 0 ≤ i ∧ i < K ∧ req N (S i) (S' j)) : ∀ n : Nat, ((n : Int) < K → (n : Int) < K' ∧ req N (S n) (S' n)) ∧ ((n : Int) < K' → (n : Int) < K ∧ req N (S n) (S' n)) := by
  intro n
  induction n using Nat.strongRecOn with
  | ind n ih =>
    have key : ∀ {K K' : Int} {S S' : Int → Int → Int}, (∀ i j, 0 ≤ i → i < j → j < K → ahd N (S i) (S j)) → (∀ i j, 0 ≤ i → i < j → j < K' → ahd N (S' i) (S' j)) → (∀ i, 0 ≤ i → i < K → ∃ j, 0 ≤ j ∧ j < K' ∧ req N (S' j) (S i)) → (∀ j, 0 ≤ j → j < K' → ∃ i, 0 ≤ i ∧ i < K ∧ req N (S i) (S' j)) → (∀ m : Nat, m < n → (m : Int) < K → req N (S m) (S' m)) → (∀ m : Nat, m < n → (m : Int) < K' → (m : Int) < K ∧ req N (S m) (S' m)) → (n : Int) < K → (n : Int) < K' ∧ req N (S n) (S' n) := by
      intro K K' S S' h h' c1 c2 p1 p2 hn
      obtain ⟨j, j0, j1, j2⟩ := c1 n (by omega) hn
      have jn : (n : Int) ≤ j := by
        apply Classical.byContradiction
        intro q
        obtain ⟨m, em⟩ : ∃ m : Nat, j = m := ⟨j.toNat, by omega⟩
        rw [em] at j2
        have e := p1 m (by omega) (by omega)
        exact ah_irr (rqt e j2) (h m n (by omega) (by omega) hn)
      refine ⟨by omega, ?_⟩
      by_cases q : j = n
      · rw [q] at j2; exact rqs j2
      · obtain ⟨i, i0, i1, i2⟩ := c2 n (by omega) (by omega)
        have a1 : ahd N (S i) (S n) := ah_congr (rqs i2) j2 (h' n j (by omega) (by omega) j1)
        have ilt : i < n := by
          apply Classical.byContradiction
          intro q2
          by_cases q3 : i = n
          · rw [q3] at a1; exact ah_irr (fun _ _ _ => rfl) a1
          · exact ah_irr (fun _ _ _ => rfl) (ah_tr a1 (h n i (by omega) (by omega) i1))
        obtain ⟨m, em⟩ : ∃ m : Nat, i = m := ⟨i.toNat, by omega⟩
        rw [em] at i2 i1
        have e := p1 m (by omega) i1
        exact absurd (h' m n (by omega) (by omega) (by omega)) (ah_irr (rqt (rqs e) i2))
    refine ⟨key h h' c1 c2 (fun m hm z => ((ih m hm).1 z).2) (fun m hm z => (ih m hm).2 z), fun hn => ?_⟩
    have := key h' h c2 c1 (fun m hm z => rqs ((ih m hm).2 z).2) (fun m hm z => ⟨((ih m hm).1 z).1, rqs ((ih m hm).1 z).2⟩) hn
    exact ⟨this.1, rqs this.2⟩
end
