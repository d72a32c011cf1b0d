/-! sylow, exactly -/
def syP (p N q : Int) : Prop := 1 ≤ q ∧ ∃ k : Nat, q = p ^ k ∧ N % q = 0 ∧ N % (q * p) ≠ 0
def fcP (C : Int) (z : Int → Int) (q v : Int) : Prop := (v = -1 ∧ ∀ c, 0 ≤ c → c < C → z c ≠ q) ∨ ((0 ≤ v ∧ v < C) ∧ z v = q ∧ ∀ c, 0 ≤ c → c < v → z c ≠ q)
def syV (N C : Int) (z : Int → Int) (p v : Int) : Prop := (¬ (p = 2 ∨ p = 3 ∨ p = 5 ∨ p = 7) ∧ v = -1) ∨ ((p = 2 ∨ p = 3 ∨ p = 5 ∨ p = 7) ∧ ∃ q, syP p N q ∧ fcP C z q v)
theorem syP_u {p N q q' : Int} (hp : 2 ≤ p) (h : syP p N q) (h' : syP p N q') : q = q' := by
  obtain ⟨_, k, e, d, n⟩ := h
  obtain ⟨_, k', e', d', n'⟩ := h'
  have key : ∀ a b : Nat, a < b → N % (p ^ b) = 0 → N % (p ^ a * p) ≠ 0 → False := fun a b ab z w => by
    refine w ?_
    have e2 : p ^ b = p ^ a * p * p ^ (b - a - 1) := by
      rw [← Int.pow_succ, ← Int.pow_add, show a + 1 + (b - a - 1) = b by omega]
    rw [e2] at z
    exact Int.emod_eq_zero_of_dvd (Int.dvd_trans (Int.dvd_mul_right _ _) (Int.dvd_of_emod_eq_zero z))
  rcases Nat.lt_trichotomy k k' with q | q | q
  · exact (key k k' q (by rw [← e']; exact d') (by rw [← e]; exact n)).elim
  · rw [e, e', q]
  · exact (key k' k q (by rw [← e]; exact d) (by rw [← e']; exact n')).elim
theorem fcP_u {C q v w : Int} {z : Int → Int} (h : fcP C z q v) (h' : fcP C z q w) : v = w := by
  rcases h with ⟨a, b⟩ | ⟨a, b, c⟩
  · rcases h' with ⟨a', b'⟩ | ⟨a', b', c'⟩
    · rw [a, a']
    · exact absurd b' (b w a'.1 a'.2)
  · rcases h' with ⟨a', b'⟩ | ⟨a', b', c'⟩
    · exact absurd b (b' v a.1 a.2)
    · rcases Int.lt_trichotomy v w with q | q | q
      · exact absurd b (c' v a.1 q)
      · exact q
      · exact absurd b' (c w a'.1 q)
theorem syV_u {N C p v w : Int} {z : Int → Int} (h : syV N C z p v) (h' : syV N C z p w) : v = w := by
  rcases h with ⟨a, b⟩ | ⟨a, q, b, c⟩
  · rcases h' with ⟨a', b'⟩ | ⟨a', q', b', c'⟩
    · rw [b, b']
    · exact absurd a' a
  · rcases h' with ⟨a', b'⟩ | ⟨a', q', b', c'⟩
    · exact absurd a a'
    · rw [syP_u (by omega) b' b] at c'
      exact fcP_u c c'
theorem syV_c {N C p v : Int} {z z' : Int → Int} (e : ∀ c, 0 ≤ c → c < C → z c = z' c) (h : syV N C z p v) : syV N C z' p v := by
  rcases h with h | ⟨a, q, b, c⟩
  · exact Or.inl h
  · refine Or.inr ⟨a, q, b, ?_⟩
    rcases c with ⟨c1, c2⟩ | ⟨c1, c2, c3⟩
    · exact Or.inl ⟨c1, fun x x0 x1 => by rw [← e x x0 x1]; exact c2 x x0 x1⟩
    · exact Or.inr ⟨c1, by rw [← e v c1.1 c1.2]; exact c2, fun x x0 x1 => by rw [← e x x0 (by omega)]; exact c3 x x0 x1⟩
section
variable {G : List gS} {R V : gV} {T : gT} {W : gV} {L : Int → Int} {I : Int → gD} {B M S N g b x p n o m y : Nat} {C D E : Int} {dd : gD}
theorem firstClass_x (h : hA G R T y) (th : TH T V) {a : Int} (ha : i32 a) : cwv 2 (fun r V' => ∃ v : Int, r = some (0, v) ∧ (V' = V ∧ fcP (V y 1) (fun c => V (y + 3) (V (y + 7) c)) a v)) 68 [(4, (y : Int)), (0, a)] G R V := by
  have c := h.cl _ (th y 1)
  refine c_X4_firstClassOfSize (t_X4_firstClassOfSize_0 h.ly ?_)
  refine pool1 (f := fun i => [some (4, (y : Int)), some (0, a), some (0, i)]) (Inv := fun i => 0 ≤ i ∧ i ≤ V y 1 ∧ ∀ c, 0 ≤ c → c < i → V (y + 3) (V (y + 7) c) ≠ a) (μ := fun i => (300 - i).toNat) (fun i hi ih => ?_) 0 ⟨by omega, by omega, fun c c0 c1 => by omega⟩
  obtain ⟨i0, i1, hh⟩ := hi
  have s := (h.sz _ _).mp (th (y + 3) (V (y + 7) i))
  refine t_X4_firstClassOfSize_2 h.ly (fun _ => ⟨by omega, fun z => ⟨-1, rfl, rfl, Or.inl ⟨rfl, fun c c0 c1 => hh c c0 (by omega)⟩⟩, fun z => cpI_u (by omega) (sizeInClass_e h th (by omega)) ⟨by omega, ha, fun z2 => ⟨by omega, ih _ ⟨by omega, by omega, fun c c0 c1 => ?_⟩ (by omega)⟩, fun z2 => ⟨i, rfl, rfl, Or.inr ⟨⟨i0, z⟩, z2, hh⟩⟩⟩⟩)
  by_cases q : c = i
  · rw [q]; exact z2
  · exact hh c c0 (by omega)
theorem sylow_X (u : cT G R T B b g p n C D o m E) (lk : lkT T R g dd) (h120 : 1 ≤ dd 0 1 ∧ dd 0 1 ≤ 120) (th : TH T V) {a : Int} (ha : i32 a) : wP T 8 (syV (dd 0 1) (dd 0 3) (fun c => dd 203 (dd 207 c)) a) 116 [(4, (B : Int)), (0, a)] G R V := by
  have e1 : V (g + 1) 1 = dd 0 1 := lk.2.1 _ (th (g + 1) 1)
  have e3 := lk_3 lk th
  have ez : (fun c => V (g + 10 + 3) (V (g + 10 + 7) c)) = fun c => dd 203 (dd 207 c) := funext (fun c => by
    rw [show V (g + 10 + 7) c = dd 207 c from lk_j lk th 7 (by omega) (by omega) (by omega) c]
    exact lk_j lk th 3 (by omega) (by omega) (by omega) _)
  have lp : (a = 2 ∨ a = 3 ∨ a = 5 ∨ a = 7) → wpv K_X7_sylow 7 (fun r V' => ∃ v : Int, r = some (0, v) ∧ syV (dd 0 1) (dd 0 3) (fun c => dd 203 (dd 207 c)) a v ∧ TH T V') 42 [some (4, (B : Int)), some (0, a), some (0, 1), some (0, V (g + 1) 1), some (0, 0)] [] G R V := by
    intro hs
    refine pool3 (f := fun q r i => [some (4, (B : Int)), some (0, a), some (0, q), some (0, r), some (0, i)]) (Inv := fun q r i => (1 ≤ q ∧ 1 ≤ r ∧ q * r = dd 0 1) ∧ (∃ k : Nat, q = a ^ k) ∧ 0 ≤ i ∧ i + 1 ≤ q) (μ := fun _ _ i => (120 - i).toNat) (fun q r i hi ih => ?_) 1 _ 0 ⟨⟨by omega, by omega, by omega⟩, ⟨0, (Int.pow_zero _).symm⟩, by omega, by omega⟩
    obtain ⟨⟨q1, q2, q3⟩, ⟨k, ek⟩, h0, h1⟩ := hi
    have qb : q ≤ 120 := by
      have : q * 1 ≤ q * r := Int.mul_le_mul_of_nonneg_left (by omega) (by omega)
      omega
    have rb : r ≤ 120 := by
      have : 1 * r ≤ q * r := Int.mul_le_mul_of_nonneg_right (by omega) (by omega)
      omega
    have m1 := Int.emod_nonneg r (show a ≠ 0 by omega)
    have m2 := Int.emod_lt_of_pos r (show 0 < a by omega)
    refine t_X7_sylow_42 u.ly ⟨by omega, fun z => by omega, fun _ => ⟨by omega, fun z => by omega, fun r0 => ⟨by omega, by omega, by omega, fun e0 => ⟨b, ⟨u.rb, u.u.b.ly⟩, g, ⟨u.u.rg, u.u.g.ly⟩, ?_⟩, fun e0 => ?_⟩⟩⟩
    · refine cwI_u (by omega) (firstClass_x u.u.g.h.a th (a := q) (by omega)) (fun v V' hv => ⟨v, rfl, Or.inr ⟨hs, q, ⟨q1, k, ek, ?_, ?_⟩, ?_⟩, by rw [hv.1]; exact th⟩)
      · rw [← q3]; exact Int.mul_emod_right q r
      · rw [← q3, Int.mul_emod_mul_of_pos r a (by omega)]
        exact Int.mul_ne_zero (by omega) e0
      · have w := hv.2
        rw [e3, ez] at w
        exact w
    · have ee : r = a * (r / a) := by have := Int.mul_ediv_add_emod r a; omega
      have e2 : q * a * (r / a) = q * r := by rw [Int.mul_assoc, ← ee]
      have e3' : 0 ≤ r / a := Int.ediv_nonneg (by omega) (by omega)
      have e4 : 1 ≤ r / a := by
        rcases Int.lt_or_eq_of_le e3' with z | z
        · omega
        · rw [← z] at ee; omega
      have b0 : q * 2 ≤ q * a := Int.mul_le_mul_of_nonneg_left (by omega) (by omega)
      have b3 : q * a ≤ 120 * 7 := Int.mul_le_mul qb (by omega) (by omega) (by omega)
      exact ⟨by omega, by omega, by omega, ih _ _ _ ⟨⟨by omega, e4, by omega⟩, ⟨k + 1, by rw [ek, Int.pow_succ]⟩, by omega, by omega⟩ (by omega)⟩
  exact c_X7_sylow (t_X7_sylow_0 u.ly ⟨ha, fun e => ⟨b, ⟨u.rb, u.u.b.ly⟩, g, ⟨u.u.rg, u.u.g.ly⟩, fun _ => lp (by omega)⟩, fun _ => ⟨fun e => ⟨b, ⟨u.rb, u.u.b.ly⟩, g, ⟨u.u.rg, u.u.g.ly⟩, fun _ => lp (by omega)⟩, fun _ => ⟨fun e => ⟨b, ⟨u.rb, u.u.b.ly⟩, g, ⟨u.u.rg, u.u.g.ly⟩, fun _ => lp (by omega)⟩, fun _ => ⟨fun e => ⟨b, ⟨u.rb, u.u.b.ly⟩, g, ⟨u.u.rg, u.u.g.ly⟩, fun _ => lp (by omega)⟩, fun _ => ⟨_, rfl, Or.inl ⟨by omega, rfl⟩, th⟩⟩⟩⟩⟩)
theorem sylow_C (ly : lay8 G R M) (hM : MI V M) {p : Int} (h1 : i32 p) : cwv 1 (fun r V' => ∃ v, r = some (0, v) ∧ (qF V V' M ∧ syV (V M 5) (V M 13) (fun c => V (M + 10) (V (M + 15) c)) p v)) 205 [(4, (M : Int)), (0, p)] G R V := by
  have n := MI_N hM
  have main : (p = 2 ∨ p = 3 ∨ p = 5 ∨ p = 7) → wpv K_X8_sylow 0 (fun r V' => ∃ v, r = some (0, v) ∧ (qF V V' M ∧ syV (V M 5) (V M 13) (fun c => V (M + 10) (V (M + 15) c)) p v)) 25 [some (4, (M : Int)), some (0, p), some (0, 1)] [] G R V := by
    intro hs
    refine pool1 (f := fun x => [some (4, (M : Int)), some (0, p), some (0, x)]) (fun x => (1 ≤ x ∧ x ≤ V M 5) ∧ V M 5 % x = 0 ∧ ∃ k : Nat, x = p ^ k) (fun x => (121 - x).toNat) (fun x hx ih => ?_) 1 ⟨by omega, Int.emod_one _, 0, (Int.pow_zero _).symm⟩
    obtain ⟨⟨x0, x1⟩, xd, k, ek⟩ := hx
    have xp : x * 2 ≤ x * p := Int.mul_le_mul_of_nonneg_left (by omega) (by omega)
    have xp2 : x * p ≤ x * 7 := Int.mul_le_mul_of_nonneg_left (by omega) (by omega)
    have m0 := Int.emod_nonneg (V M 5) (show x * p ≠ 0 by omega)
    have m1 := Int.emod_lt_of_pos (V M 5) (show 0 < x * p by omega)
    refine t_X8_sylow_25 ly (fun _ => ⟨by omega, ⟨by omega, by omega⟩, by omega, fun z => ?_, fun z => ih _ ⟨⟨by omega, ?_⟩, z, k + 1, by rw [ek, Int.pow_succ]⟩ ?_⟩)
    · refine pool1 (f := fun y => [some (4, (M : Int)), none, some (0, x), some (0, y)]) (fun y => 0 ≤ y ∧ y ≤ V M 13 ∧ ∀ c, 0 ≤ c → c < y → V (M + 10) (V (M + 15) c) ≠ x) (fun y => (V M 13 - y).toNat) (fun y hy ih2 => ?_) 0 ⟨by omega, by omega, fun c c0 c1 => by omega⟩
      obtain ⟨y0, y1, hh⟩ := hy
      refine t_X8_sylow_45 ly (fun _ => ⟨by omega, fun z2 => ⟨_, rfl, qF_refl, Or.inr ⟨hs, x, ⟨x0, k, ek, xd, z⟩, Or.inl ⟨rfl, fun c c0 c1 => hh c c0 (by omega)⟩⟩⟩, fun z2 => ⟨by omega, fun _ => ?_⟩⟩)
      have f := MI_fo hM (c := y) (by omega)
      refine ⟨by omega, fun _ => ⟨by omega, fun z3 => ⟨by omega, ih2 _ ⟨by omega, by omega, fun c c0 c1 => ?_⟩ (by omega)⟩, fun z3 => ⟨_, rfl, qF_refl, Or.inr ⟨hs, x, ⟨x0, k, ek, xd, z⟩, Or.inr ⟨⟨y0, z2⟩, z3, hh⟩⟩⟩⟩⟩
      by_cases q : c = y
      · rw [q]; exact z3
      · exact hh c c0 (by omega)
    · exact Int.le_of_dvd (by omega) (Int.dvd_of_emod_eq_zero z)
    · have : x * p ≤ V M 5 := Int.le_of_dvd (by omega) (Int.dvd_of_emod_eq_zero z)
      omega
  exact c_X8_sylow (t_X8_sylow_0 ly ⟨h1, fun _ => main (by omega), fun _ => ⟨fun _ => main (by omega), fun _ => ⟨fun _ => main (by omega), fun _ => ⟨fun _ => main (by omega), fun _ => ⟨_, rfl, qF_refl, Or.inl ⟨by omega, rfl⟩⟩⟩⟩⟩⟩)
end
