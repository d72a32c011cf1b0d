section
variable {d : Nat} {G : List gS} {R V : gV} {M : Nat}
def tkF (V0 V : gV) (M : Nat) : Prop := ∀ a i, a ≠ M + 4 → a ≠ M + 5 → a ≠ M + 6 → a ≠ M + 8 → ¬ (a = M ∧ (i = 4 ∨ i = 5)) → V a i = V0 a i
/-- the image as it stands: n places, N turns, laid from rows f -/
def imP (f : Int → Int) (V : gV) (M : Nat) (n N : Int) : Prop := V M 4 = n ∧ V M 5 = N ∧ GR (fun i => V (M + 4) i) n N ∧ srt (fun i => V (M + 4) i) n N ∧ (∀ k p, 0 ≤ k → k < N → 0 ≤ p → p < n → V (M + 4) (8 * plc f n N k + p) = f (8 * k + p)) ∧ (∀ k p, 0 ≤ k → k < N → n ≤ p → p < 8 → V (M + 4) (8 * k + p) = p)
def prP (V : gV) (M : Nat) (n N s t : Int) : Prop := 0 ≤ V (M + 5) (120 * s + t) ∧ V (M + 5) (120 * s + t) < N ∧ ∀ p, 0 ≤ p → p < n → V (M + 4) (8 * V (M + 5) (120 * s + t) + p) = V (M + 4) (8 * t + V (M + 4) (8 * s + p))
def ivP (V : gV) (M : Nat) (N s : Int) : Prop := 0 ≤ V (M + 6) s ∧ V (M + 6) s < N ∧ V (M + 5) (120 * s + V (M + 6) s) = 0
def tkP (V0 V : gV) (M : Nat) (n : Int) : Prop := tkF V0 V M ∧ imP (fun i => V0 (M + 7) i) V M n (V0 M 10) ∧ (∀ s t, 0 ≤ s → s < V0 M 10 → 0 ≤ t → t < V0 M 10 → prP V M n (V0 M 10) s t) ∧ (∀ s, 0 ≤ s → s < V0 M 10 → ivP V M (V0 M 10) s)
theorem imP_wr {f : Int → Int} {n N : Int} (h : imP f V M n N) {a : Nat} {i v : Int} (h1 : a ≠ M + 4) (h2 : ¬ (a = M ∧ (i = 4 ∨ i = 5))) : imP f (wr V a i v) M n N := by
  have e4 : wr V a i v M 4 = V M 4 := wr_ne (fun z => h2 ⟨z.1.symm, Or.inl z.2.symm⟩)
  have e5 : wr V a i v M 5 = V M 5 := wr_ne (fun z => h2 ⟨z.1.symm, Or.inr z.2.symm⟩)
  have e : ∀ x, wr V a i v (M + 4) x = V (M + 4) x := fun x => wr_a (fun z => h1 z.symm)
  unfold imP
  simp only [e4, e5, e]
  exact h
theorem takes_5 (ly : lay8 G R M) {V0 : gV} {n : Int} : ∀ x V, (0 ≤ x ∧ x ≤ V0 M 10 ∧ tkF V0 V M ∧ imP (fun i => V0 (M + 7) i) V M n (V0 M 10) ∧ (∀ s t, 0 ≤ s → s < V0 M 10 → 0 ≤ t → t < V0 M 10 → prP V M n (V0 M 10) s t) ∧ (∀ s, 0 ≤ s → s < x → ivP V M (V0 M 10) s)) → wpv K_X8_takes 2 (fun r V' => r = none ∧ tkP V0 V' M n) 187 [some (4, (M : Int)), none, some (0, x)] [] G R V := by
  refine loop1 (f := fun x => [some (4, (M : Int)), none, some (0, x)]) _ (fun x _ => (V0 M 10 - x).toNat) (fun s V hx ih => ?_)
  obtain ⟨s0, s1, fr, im, pr, iv⟩ := hx
  have e5 := im.2.1
  have gr := im.2.2.1
  have N1 : 1 ≤ V0 M 10 ∧ V0 M 10 ≤ 120 := ⟨gr.2.2.1, gr.2.2.2.1⟩
  refine t_X8_takes_187 ly (fun _ => ⟨by omega, fun c => ⟨rfl, fr, im, pr, fun s' h1 h2 => iv s' h1 (by omega)⟩, fun c => ?_⟩)
  rw [e5] at c
  refine loop1 (f := fun y => [some (4, (M : Int)), none, some (0, s), some (0, y)]) (fun t V => 0 ≤ t ∧ t ≤ V0 M 10 ∧ tkF V0 V M ∧ imP (fun i => V0 (M + 7) i) V M n (V0 M 10) ∧ (∀ s t, 0 ≤ s → s < V0 M 10 → 0 ≤ t → t < V0 M 10 → prP V M n (V0 M 10) s t) ∧ (∀ s', 0 ≤ s' → s' < s → ivP V M (V0 M 10) s') ∧ ∀ u, 0 ≤ u → u < t → V (M + 5) (120 * s + u) = 0 → ivP V M (V0 M 10) s) (fun t _ => (V0 M 10 - t).toNat) (fun t V hx ih2 => ?_) 0 V ⟨by omega, by omega, fr, im, pr, iv, fun u u0 u1 => by omega⟩
  clear fr im pr iv e5 gr
  obtain ⟨t0, t1, fr, im, pr, iv, it⟩ := hx
  have e5 := im.2.1
  have gr := im.2.2.1
  refine t_X8_takes_197 ly (fun _ => ⟨by omega, fun c2 => ⟨by omega, ih (s + 1) V ⟨by omega, by omega, fr, im, pr, fun s' h1 h2 => ?_⟩ (by omega)⟩, fun c2 => ⟨by omega, by omega, by omega, fun _ => ⟨fun c3 => ⟨by omega, ih2 (t + 1) V ⟨by omega, by omega, fr, im, pr, iv, fun u u0 u1 u2 => ?_⟩ (by omega)⟩, fun c3 => ⟨by omega, by omega, ih2 (t + 1) _ ⟨by omega, by omega, fun a i b1 b2 b3 b4 b5 => ?_, imP_wr im (by omega) (by omega), fun s2 t2 d0 d1 d2 d3 => ?_, fun s' h1 h2 => ?_, fun u u0 u1 u2 => ?_⟩ (by omega)⟩⟩⟩⟩)
  · by_cases e : s' = s
    · subst e
      have hm : isPr (fun i => V (M + 4) i) n (V0 M 10) (fun s t => V (M + 5) (120 * s + t)) := fun a b a0 a1 b0 b1 => pr a b a0 a1 b0 b1
      obtain ⟨u, u0, u1, u2⟩ := pig (φ := fun u => V (M + 5) (120 * s' + u)) (n := V0 M 10) (by omega) (fun i i0 i1 => ⟨(pr s' i s0 (by omega) i0 i1).1, (pr s' i s0 (by omega) i0 i1).2.1⟩) (fun i j i0 i1 j0 j1 w => pr_inj gr hm ⟨s0, by omega⟩ ⟨i0, i1⟩ ⟨j0, j1⟩ w) (y := 0) (by omega) (by omega)
      exact it u u0 (by omega) u2
    · exact iv s' h1 (by omega)
  · by_cases e : u = t
    · rw [e] at u2; exact absurd u2 c3
    · exact it u u0 (by omega) u2
  · rw [wr_a b3]; exact fr a i b1 b2 b3 b4 b5
  · unfold prP
    simp only [wr_a (show M + 5 ≠ M + 6 by omega), wr_a (show M + 4 ≠ M + 6 by omega)]
    exact pr s2 t2 d0 d1 d2 d3
  · unfold ivP
    simp only [wr_a (show M + 5 ≠ M + 6 by omega), wr_i (show s' ≠ s by omega)]
    exact iv s' h1 h2
  · unfold ivP
    simp only [wr_a (show M + 5 ≠ M + 6 by omega), wr_same]
    exact ⟨t0, by omega, c3⟩
theorem takes_4 (ly : lay8 G R M) {V0 : gV} {n : Int} : ∀ x V, (0 ≤ x ∧ x ≤ V0 M 10 ∧ tkF V0 V M ∧ imP (fun i => V0 (M + 7) i) V M n (V0 M 10) ∧ (∀ s t, 0 ≤ s → s < x → 0 ≤ t → t < V0 M 10 → prP V M n (V0 M 10) s t)) → wpv K_X8_takes 2 (fun r V' => r = none ∧ tkP V0 V' M n) 138 [some (4, (M : Int)), none, some (0, x)] [] G R V := by
  refine loop1 (f := fun x => [some (4, (M : Int)), none, some (0, x)]) _ (fun x _ => (V0 M 10 - x).toNat) (fun s V hx ih => ?_)
  obtain ⟨s0, s1, fr, im, pr⟩ := hx
  have e5 := im.2.1
  have gr := im.2.2.1
  have N1 : 1 ≤ V0 M 10 ∧ V0 M 10 ≤ 120 := ⟨gr.2.2.1, gr.2.2.2.1⟩
  refine t_X8_takes_138 ly (fun _ => ⟨by omega, fun c => takes_5 ly 0 V ⟨by omega, by omega, fr, im, fun s t a0 a1 b0 b1 => pr s t a0 (by omega) b0 b1, fun s h1 h2 => by omega⟩, fun c => ?_⟩)
  rw [e5] at c
  refine loop1 (f := fun y => [some (4, (M : Int)), none, some (0, s), some (0, y)]) (fun t V => 0 ≤ t ∧ t ≤ V0 M 10 ∧ tkF V0 V M ∧ imP (fun i => V0 (M + 7) i) V M n (V0 M 10) ∧ (∀ s' t', 0 ≤ s' → 0 ≤ t' → t' < V0 M 10 → (s' < s ∨ (s' = s ∧ t' < t)) → prP V M n (V0 M 10) s' t')) (fun t _ => (V0 M 10 - t).toNat) (fun t V hx ih2 => ?_) 0 V ⟨by omega, by omega, fr, im, fun s' t' a0 b0 b1 c => pr s' t' a0 (by omega) b0 b1⟩
  clear fr im pr e5 gr
  obtain ⟨t0, t1, fr, im, pr⟩ := hx
  have e4 := im.1
  have e5 := im.2.1
  have gr := im.2.2.1
  have sr := im.2.2.2.1
  refine t_X8_takes_148 ly (fun _ => ⟨by omega, fun c2 => ⟨by omega, ih (s + 1) V ⟨by omega, by omega, fr, im, fun s' t' a0 a1 b0 b1 => pr s' t' a0 b0 b1 (by omega)⟩ (by omega)⟩, fun c2 => ⟨by omega, by omega, ?_⟩⟩)
  have fc := find_c (V := V) ly (by rw [e4, e5]; exact gr) (by rw [e4, e5]; exact sr) (s := s) (t := t) (by omega) (by omega)
  refine cwI_u (Nat.le_add_right 1 1) fc (fun k V' hk => ?_)
  obtain ⟨ev, k0, k1, hk⟩ := hk
  rw [e4] at hk
  rw [e5] at k1
  subst ev
  refine ⟨by omega, by omega, by omega, ih2 (t + 1) _ ⟨by omega, by omega, fun a i b1 b2 b3 b4 b5 => ?_, imP_wr im (by omega) (by omega), fun s' t' a0 b0 b1 c3 => ?_⟩ (by omega)⟩
  · rw [wr_a b2]; exact fr a i b1 b2 b3 b4 b5
  · unfold prP
    simp only [wr_a (show M + 4 ≠ M + 5 by omega)]
    by_cases e : s' = s ∧ t' = t
    · rw [e.1, e.2, wr_same]
      exact ⟨k0, k1, hk⟩
    · rw [wr_i (by omega)]
      exact pr s' t' a0 b0 b1 (by omega)
theorem takes_3 (ly : lay8 G R M) {V0 : gV} {n : Int} (g0 : GR (fun i => V0 (M + 7) i) n (V0 M 10)) : ∀ x V, (0 ≤ x ∧ x ≤ V0 M 10 ∧ tkF V0 V M ∧ V M 4 = n ∧ V M 5 = V0 M 10 ∧ (∀ k, 0 ≤ k → k < V0 M 10 → V (M + 8) (plc (fun i => V0 (M + 7) i) n (V0 M 10) k) = k) ∧ (∀ k p, 0 ≤ k → k < x → 0 ≤ p → p < 8 → V (M + 4) (8 * k + p) = if p < n then V0 (M + 7) (8 * V (M + 8) k + p) else p)) → wpv K_X8_takes 2 (fun r V' => r = none ∧ tkP V0 V' M n) 77 [some (4, (M : Int)), some (0, n), some (0, x)] [] G R V := by
  have N1 : 1 ≤ V0 M 10 ∧ V0 M 10 ≤ 120 := ⟨g0.2.2.1, g0.2.2.2.1⟩
  have n1 : 1 ≤ n ∧ n ≤ 8 := ⟨g0.1, g0.2.1⟩
  refine loop1 (f := fun x => [some (4, (M : Int)), some (0, n), some (0, x)]) _ (fun x _ => (V0 M 10 - x).toNat) (fun k V hx ih => ?_)
  obtain ⟨k0, k1, fr, e4, e5, od, rw0⟩ := hx
  refine t_X8_takes_77 ly (fun _ => ⟨by omega, fun c => takes_4 ly 0 V ⟨by omega, by omega, fr, ?_, fun s t h1 h2 => by omega⟩, fun c => ?_⟩)
  · have hf : ∀ k p, 0 ≤ k → k < V0 M 10 → 0 ≤ p → p < n → V (M + 4) (8 * k + p) = V0 (M + 7) (8 * V (M + 8) k + p) := fun k' p a0 a1 b0 b1 => by rw [rw0 k' p a0 (by omega) b0 (by omega), if_pos b1]
    obtain ⟨gr, sr⟩ := GR_srt (f2 := fun i => V (M + 4) i) (o := fun i => V (M + 8) i) g0 od hf
    refine ⟨e4, e5, gr, sr, fun k' p a0 a1 b0 b1 => ?_, fun k' p a0 a1 b0 b1 => ?_⟩
    · have r := plc_r (f := fun i => V0 (M + 7) i) (n := n) a0 a1
      rw [hf _ p r.1 r.2 b0 b1, od k' a0 a1]
    · rw [rw0 k' p a0 (by omega) (by omega) b1, if_neg (by omega)]
  rw [e5] at c
  refine loop1 (f := fun y => [some (4, (M : Int)), some (0, n), some (0, k), some (0, y)]) (fun p V => 0 ≤ p ∧ p ≤ 8 ∧ tkF V0 V M ∧ V M 4 = n ∧ V M 5 = V0 M 10 ∧ (∀ k, 0 ≤ k → k < V0 M 10 → V (M + 8) (plc (fun i => V0 (M + 7) i) n (V0 M 10) k) = k) ∧ (∀ k' p', 0 ≤ k' → 0 ≤ p' → p' < 8 → (k' < k ∨ (k' = k ∧ p' < p)) → V (M + 4) (8 * k' + p') = if p' < n then V0 (M + 7) (8 * V (M + 8) k' + p') else p')) (fun p _ => (8 - p).toNat) (fun p V hx ih2 => ?_) 0 V ⟨by omega, by omega, fr, e4, e5, od, fun k' p' a0 b0 b1 c => rw0 k' p' a0 (by omega) b0 b1⟩
  clear fr e4 e5 od rw0
  obtain ⟨p0, p1, fr, e4, e5, od, rw0⟩ := hx
  have w8 : ∀ (v : Int) (x : Int), wr V (M + 4) (8 * k + p) v (M + 8) x = V (M + 8) x := fun v x => wr_a (by omega)
  have nx : ∀ v, v = (if p < n then V0 (M + 7) (8 * V (M + 8) k + p) else p) → p < 8 → wpv K_X8_takes 2 (fun r V' => r = none ∧ tkP V0 V' M n) 87 [some (4, (M : Int)), some (0, n), some (0, k), some (0, p + 1)] [] G R (wr V (M + 4) (8 * k + p) v) := by
    intro v hv c2
    refine ih2 (p + 1) _ ⟨by omega, by omega, fun a i b1 b2 b3 b4 b5 => ?_, ?_, ?_, fun k' a0 a1 => ?_, fun k' p' a0 b0 b1 c3 => ?_⟩ (by omega)
    · rw [wr_a b1]; exact fr a i b1 b2 b3 b4 b5
    · rw [wr_a (by omega)]; exact e4
    · rw [wr_a (by omega)]; exact e5
    · rw [w8]; exact od k' a0 a1
    · rw [w8]
      by_cases e : k' = k ∧ p' = p
      · rw [e.1, e.2, wr_same]; exact hv
      · rw [wr_i (by omega)]; exact rw0 k' p' a0 b0 b1 (by omega)
  obtain ⟨k2, q0, q1, q2⟩ := plc_sur g0 k0 c
  have ok := od k2 q0 q1
  rw [q2] at ok
  have f7 : ∀ x, V (M + 7) x = V0 (M + 7) x := fun x => fr _ _ (by omega) (by omega) (by omega) (by omega) (by omega)
  refine t_X8_takes_87 ly ⟨by omega, fun c2 => ⟨by omega, ih (k + 1) V ⟨by omega, by omega, fr, e4, e5, od, fun k' p' a0 a1 b0 b1 => rw0 k' p' a0 b0 b1 (by omega)⟩ (by omega)⟩, fun c2 => ⟨by omega, by omega, by omega, fun c3 => ⟨by omega, by omega, nx p (by rw [if_neg c3]) c2⟩, fun c3 => ⟨by omega, fun _ => ?_⟩⟩⟩

  exact cpI_u (Nat.le_add_right 1 1) (newPlace_c ly (by omega) (by omega)) ⟨by omega, by have := g0.2.2.2.2.1 k2 p q0 q1 p0 c3; rw [ok, f7]; dsimp only at this; omega, by omega, nx _ (by rw [if_pos c3, f7]) c2⟩
end
