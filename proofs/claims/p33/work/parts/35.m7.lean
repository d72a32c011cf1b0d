section
variable {d : Nat} {G : List gS} {R V : gV} {M : Nat}
theorem takes_c (ly : lay8 G R M) {n : Int} (g0 : GR (fun i => V (M + 7) i) n (V M 10)) : cwv 3 (fun r V' => r = none ∧ tkP V V' M n) 168 [(4, (M : Int)), (0, n)] G R V := by
  have N1 : 1 ≤ V M 10 ∧ V M 10 ≤ 120 := ⟨g0.2.2.1, g0.2.2.2.1⟩
  have n1 : 1 ≤ n ∧ n ≤ 8 := ⟨g0.1, g0.2.1⟩
  refine c_X8_takes (t_X8_takes_0 ly ?_)
  generalize hV0 : V = V0 at g0 N1 ⊢
  refine loop1 (f := fun x => [some (4, (M : Int)), some (0, n), some (0, x)]) (fun x V => 0 ≤ x ∧ x ≤ V0 M 10 ∧ (∀ a i, a ≠ M + 8 → V a i = V0 a i) ∧ ∀ k, 0 ≤ k → k < x → V (M + 8) (plc (fun i => V0 (M + 7) i) n (V0 M 10) k) = k) (fun x _ => (V0 M 10 - x).toNat) (fun k V hx ih => ?_) 0 V0 ⟨by omega, by omega, fun _ _ _ => rfl, fun k h1 h2 => by omega⟩
  obtain ⟨k0, k1, fr, od⟩ := hx
  have eN : V M 10 = V0 M 10 := fr _ _ (by omega)
  refine t_X8_takes_2 ly (fun _ => ⟨by omega, fun c => ⟨by omega, ?_⟩, fun c => ?_⟩)
  · rw [eN]
    refine takes_3 ly g0 0 _ ⟨by omega, by omega, fun a i b1 b2 b3 b4 b5 => ?_, ?_, ?_, fun k' a0 a1 => ?_, fun k' p a0 a1 => by omega⟩
    · rw [wr_ne (fun z => b5 ⟨z.1, Or.inr z.2⟩), wr_ne (fun z => b5 ⟨z.1, Or.inl z.2⟩)]; exact fr a i b4
    · rw [wr_i (by omega), wr_same]
    · rw [wr_same]
    · rw [wr_a (by omega), wr_a (by omega)]; exact od k' a0 (by omega)
  rw [eN] at c
  refine pool2 (f := fun x y => [some (4, (M : Int)), some (0, n), some (0, k), some (0, x), some (0, y)]) (fun x y => 0 ≤ y ∧ y ≤ V0 M 10 ∧ x = sm (fun j => bi (lx (fun i => V0 (M + 7) i) n j k)) y.toNat) (fun _ y => (V0 M 10 - y).toNat) (fun x y hx ih2 => ?_) 0 0 ⟨by omega, by omega, rfl⟩
  obtain ⟨y0, y1, hx⟩ := hx
  have xb := sm_b (f := fun j => bi (lx (fun i => V0 (M + 7) i) n j k)) (n := y.toNat) (fun i _ _ => by rcases bi_01 (lx (fun i => V0 (M + 7) i) n i k) with z | z <;> omega)
  rw [← hx] at xb
  refine wp_rng (fun vr => ?_)
  refine t_X8_takes_15 ly (fun _ => ⟨by omega, fun c2 => ?_, fun c2 => ?_⟩)
  · have e : x = plc (fun i => V0 (M + 7) i) n (V0 M 10) k := by
      rw [hx, show y = V0 M 10 by omega]; rfl
    have r := plc_r (f := fun i => V0 (M + 7) i) (n := n) k0 c
    refine ⟨by omega, by omega, by omega, ih (k + 1) _ ⟨by omega, by omega, fun a i b => ?_, fun k' a0 a1 => ?_⟩ (by omega)⟩
    · rw [wr_a b]; exact fr a i b
    · by_cases q : k' = k
      · rw [q, e, wr_same]
      · rw [wr_i]
        · exact od k' a0 (by omega)
        · intro w
          rw [e] at w
          exact q (plc_inj g0 a0 (by omega) k0 c w)
  · have ib := isBefore_c (V := V) ly (a := y) (b := k) (n := n) (by omega) (by omega) (by omega) vr
    have ei : bi (isBf V M n y k) = bi (lx (fun i => V0 (M + 7) i) n y k) := by
      refine bi_c ?_
      unfold isBf lx
      simp only [fr (M + 7) _ (show M + 7 ≠ M + 8 by omega)]
    rw [ei] at ib
    have st := sm_s (fun j => bi (lx (fun i => V0 (M + 7) i) n j k)) y0
    rw [← hx] at st
    refine cpI_u (Nat.le_refl _) ib ⟨bi32 _, fun z => ⟨by omega, by omega, ih2 _ (y + 1) ⟨by omega, by omega, ?_⟩ (by omega)⟩, fun z => ⟨by omega, by omega, ih2 _ (y + 1) ⟨by omega, by omega, ?_⟩ (by omega)⟩⟩
    · rw [st, z]
    · rw [st]
      rcases bi_01 (lx (fun i => V0 (M + 7) i) n y k) with w | w
      · exact absurd w z
      · rw [w]
/-- what takes makes is a group -/
theorem tkP_GT {V0 : gV} {n : Int} (h : tkP V0 V M n) : GT (V0 M 10) (fun s t => V (M + 5) (120 * s + t)) (fun s => V (M + 6) s) := by
  obtain ⟨_, im, pr, iv⟩ := h
  exact pr_GT im.2.2.1 im.2.2.2.1 (fun s t a0 a1 b0 b1 => pr s t a0 a1 b0 b1) (fun s s0 s1 => iv s s0 s1)
end
