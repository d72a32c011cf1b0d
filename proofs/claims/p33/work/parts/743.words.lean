/-! words; two rising rows that hold the same are one -/
def cdp (r : Int → Int) : Nat → Int
  | 0 => 0
  | n + 1 => 8 * cdp r n + r n
theorem cdp_8 (r : Int → Int) : cdp r 8 = cd r := by
  unfold cd
  show 8 * (8 * (8 * (8 * (8 * (8 * (8 * (8 * 0 + r 0) + r 1) + r 2) + r 3) + r 4) + r 5) + r 6) + r 7 = _
  omega
def e8n (n : Nat) : Int := if n = 0 then 1 else if n = 1 then 8 else if n = 2 then 64 else if n = 3 then 512 else if n = 4 then 4096 else if n = 5 then 32768 else if n = 6 then 262144 else 2097152
theorem cdp_r {r : Int → Int} (h : ∀ p, 0 ≤ p → p ≤ 7 → 0 ≤ r p ∧ r p ≤ 7) : ∀ n : Nat, n ≤ 7 → 0 ≤ cdp r n ∧ cdp r n < e8n n := by
  intro n
  induction n with
  | zero => intro _; exact ⟨Int.le_refl _, by show (0 : Int) < 1; omega⟩
  | succ n ih =>
    intro hn
    have a := ih (by omega)
    have b := h n (by omega) (by omega)
    have : n = 0 ∨ n = 1 ∨ n = 2 ∨ n = 3 ∨ n = 4 ∨ n = 5 ∨ n = 6 := by omega
    have e : e8n (n + 1) = 8 * e8n n := by
      rcases this with q | q | q | q | q | q | q <;> subst q <;> decide
    show 0 ≤ 8 * cdp r n + r n ∧ 8 * cdp r n + r n < e8n (n + 1)
    omega
section
variable {G : List gS} {R V : gV}
theorem whereTo_e {c p : Int} (hc : 0 ≤ c ∧ c < 16777216) (hp : 0 ≤ p ∧ p ≤ 7) : cpI 1 (dg c p) 147 [(0, c), (0, p)] G R V :=
  c_X7_whereTo (t_X7_whereTo_0 ⟨by omega, by omega, by rw [wt_e hc hp], rfl⟩)
theorem behind_e {s t : Int} (hs : 0 ≤ s ∧ s < 16777216) (ht : 0 ≤ t ∧ t < 16777216) : cpI 2 (cd (fun p => dg t (dg s p))) 148 [(0, s), (0, t)] G R V := by
  refine c_X7_oneBehindOther (t_X7_oneBehindOther_0 ?_)
  refine pool2 (f := fun x y => [some (0, s), some (0, t), some (0, x), some (0, y)]) (Inv := fun x y => 0 ≤ y ∧ y ≤ 8 ∧ x = cdp (fun p => dg t (dg s p)) y.toNat) (μ := fun _ y => (8 - y).toNat) (fun x y h ih => ?_) 0 0 ⟨by omega, by omega, rfl⟩
  obtain ⟨y0, y1, ex⟩ := h
  refine t_X7_oneBehindOther_4 ⟨by omega, fun c => ?_, fun c => ?_⟩
  · have : y = 8 := by omega
    subst this
    rw [ex]
    exact ⟨by rw [show (8 : Int).toNat = 8 from rfl, cdp_8], rfl⟩
  · have b := dg_r s y
    have b2 := dg_r t (dg s y)
    refine cpI_u (Nat.le_refl _) (whereTo_e hs (by omega)) (cpI_u (Nat.le_refl _) (whereTo_e ht b) ⟨by omega, ih _ _ ⟨by omega, by omega, ?_⟩ (by omega)⟩)
    have a := cdp_r (r := fun p => dg t (dg s p)) (fun p _ _ => dg_r _ _) y.toNat (by omega)
    have l : e8n y.toNat ≤ 2097152 := by unfold e8n; repeat' split <;> omega
    rw [ex, kshl3 (by omega), kor8 (by omega) (by omega), show (y + 1).toNat = y.toNat + 1 by omega]
    show _ = 8 * cdp _ y.toNat + dg t (dg s (y.toNat : Int))
    rw [Int.toNat_of_nonneg y0]
end
/-- strictly rising -/
def ris (f : Int → Int) (N : Int) : Prop := ∀ i j, 0 ≤ i → i < j → j < N → f i < f j
theorem ris_eq {f g : Int → Int} {N N' : Int} (hf : ris f N) (hg : ris g N') (h1 : ∀ i, 0 ≤ i → i < N → ∃ j, 0 ≤ j ∧ j < N' ∧ g j = f i) (h2 : ∀ j, 0 ≤ j → j < N' → ∃ i, 0 ≤ i ∧ i < N ∧ f i = g j) : ∀ n : Nat, ((n : Int) < N → (n : Int) < N' ∧ f n = g n) ∧ ((n : Int) < N' → (n : Int) < N ∧ f n = g n) := by
  intro n
  induction n using Nat.strongRecOn with
  | ind n ih =>
    have low : ∀ m : Int, 0 ≤ m → m < n → (m < N → m < N' ∧ f m = g m) ∧ (m < N' → m < N ∧ f m = g m) := fun m m0 m1 => by
      have := ih m.toNat (by omega)
      rw [Int.toNat_of_nonneg m0] at this
      exact this
    constructor
    · intro hn
      obtain ⟨j, j0, j1, j2⟩ := h1 n (by omega) hn
      have jn : ¬ j < n := fun q => by
        have := (low j j0 q).2 j1
        have := hf j n j0 q hn
        omega
      have hn' : (n : Int) < N' := by omega
      obtain ⟨i, i0, i1, i2⟩ := h2 n (by omega) hn'
      have i_n : ¬ i < n := fun q => by
        have := (low i i0 q).1 i1
        have := hg i n i0 q hn'
        omega
      refine ⟨hn', ?_⟩
      by_cases e : j = n
      · rw [e] at j2; omega
      · have a := hg n j (by omega) (by omega) j1
        by_cases e2 : i = n
        · rw [e2] at i2; omega
        · have b := hf n i (by omega) (by omega) i1
          omega
    · intro hn'
      obtain ⟨i, i0, i1, i2⟩ := h2 n (by omega) hn'
      have i_n : ¬ i < n := fun q => by
        have := (low i i0 q).1 i1
        have := hg i n i0 q hn'
        omega
      have hn : (n : Int) < N := by omega
      obtain ⟨j, j0, j1, j2⟩ := h1 n (by omega) hn
      have jn : ¬ j < n := fun q => by
        have := (low j j0 q).2 j1
        have := hf j n j0 q hn
        omega
      refine ⟨hn, ?_⟩
      by_cases e : j = n
      · rw [e] at j2; omega
      · have a := hg n j (by omega) (by omega) j1
        by_cases e2 : i = n
        · rw [e2] at i2; omega
        · have b := hf n i (by omega) (by omega) i1
          omega
/-- what the sheets make: w's first sheet is the last that moves -/
def ev (sf : Int → Int → Int) : List Int → Int → Int
  | [], p => p
  | s :: w, p => sf s (ev sf w p)
