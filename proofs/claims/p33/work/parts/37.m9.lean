/-! all closed sets -/
def sub1 (N : Int) (S T : Int → Int) : Prop := ∀ t, 0 ≤ t → t < N → S t = 1 → T t = 1
def req (N : Int) (S T : Int → Int) : Prop := ∀ t, 0 ≤ t → t < N → S t = T t
/-- a heap: its makers, its set, its size -/
def hpI (N : Int) (mul : Int → Int → Int) (S : Int → Int) (sz mk : Int) (mr : Int → Int) : Prop := 0 ≤ mk ∧ mk ≤ 6 ∧ (∀ m, 0 ≤ m → m < mk → 0 ≤ mr m ∧ mr m < N) ∧ clS N mk S mr mul ∧ sz = sm S N.toNat ∧ 2 ^ mk.toNat ≤ sm S N.toNat
def fhI (N H : Int) (mul : Int → Int → Int) (S : Int → Int → Int) (sz mk : Int → Int) (mr : Int → Int → Int) : Prop := 1 ≤ H ∧ H ≤ 300 ∧ (∀ k, 0 ≤ k → k < H → hpI N mul (S k) (sz k) (mk k) (mr k)) ∧ (∀ i j, 0 ≤ i → i < j → j < H → ¬ req N (S i) (S j)) ∧ (∀ T, SM N mul T → sub1 N (S 0) T)
def fdn (N H : Int) (mul : Int → Int → Int) (S : Int → Int → Int) (h t : Int) : Prop := ∃ k, 0 ≤ k ∧ k < H ∧ sub1 N (S h) (S k) ∧ S k t = 1 ∧ ∀ T, SM N mul T → sub1 N (S h) T → T t = 1 → sub1 N (S k) T
theorem SM_congr {N : Int} {mul : Int → Int → Int} {inv : Int → Int} (g : GT N mul inv) {S T : Int → Int} (e : req N S T) (h : SM N mul S) : SM N mul T := by
  refine ⟨fun t t0 t1 => by rw [← e t t0 t1]; exact h.1 t t0 t1, by rw [← e 0 (by omega) (by have := g.1; omega)]; exact h.2.1, fun s t a0 a1 b0 b1 h1 h2 => ?_⟩
  have m := g.2.1 s t a0 a1 b0 b1
  rw [← e _ m.1 m.2]
  exact h.2.2 s t a0 a1 b0 b1 (by rw [e s a0 a1]; exact h1) (by rw [e t b0 b1]; exact h2)
theorem hpI_congr {N : Int} {mul : Int → Int → Int} {inv : Int → Int} (g : GT N mul inv) {S T mr mr' : Int → Int} {sz sz' mk mk' : Int} (e : req N S T) (e1 : sz = sz') (e2 : mk = mk') (e3 : ∀ m, 0 ≤ m → m < mk → mr m = mr' m) (h : hpI N mul S sz mk mr) : hpI N mul T sz' mk' mr' := by
  subst e1 e2
  obtain ⟨h1, h2, h3, ⟨h4, h5, h6⟩, h7, h8⟩ := h
  have en : ((N.toNat : Nat) : Int) = N := Int.toNat_of_nonneg (by have := g.1; omega)
  have es : sm S N.toNat = sm T N.toNat := sm_congr (fun t t0 t1 => e t t0 (by omega))
  refine ⟨h1, h2, fun m m0 m1 => by rw [← e3 m m0 m1]; exact h3 m m0 m1, ⟨SM_congr g e h4, fun m m0 m1 => ?_, fun U hU hm t t0 t1 ht => ?_⟩, by rw [← es]; exact h7, by rw [← es]; exact h8⟩
  · have := h3 m m0 m1
    rw [← e3 m m0 m1, ← e _ this.1 this.2]; exact h5 m m0 m1
  · exact h6 U hU (fun m m0 m1 => by rw [e3 m m0 m1]; exact hm m m0 m1) t t0 t1 (by rw [e t t0 t1]; exact ht)
theorem fhI_congr {N H : Int} {mul : Int → Int → Int} {inv : Int → Int} (g : GT N mul inv) {S T mr mr' : Int → Int → Int} {sz sz' mk mk' : Int → Int} (e : ∀ k, 0 ≤ k → k < H → req N (S k) (T k)) (e1 : ∀ k, 0 ≤ k → k < H → sz k = sz' k) (e2 : ∀ k, 0 ≤ k → k < H → mk k = mk' k) (e3 : ∀ k m, 0 ≤ k → k < H → 0 ≤ m → m < 7 → mr k m = mr' k m) (h : fhI N H mul S sz mk mr) : fhI N H mul T sz' mk' mr' := by
  obtain ⟨h1, h2, h3, h4, h5⟩ := h
  refine ⟨h1, h2, fun k k0 k1 => hpI_congr g (e k k0 k1) (e1 k k0 k1) (e2 k k0 k1) (fun m m0 m1 => e3 k m k0 k1 m0 (by have := (h3 k k0 k1).2.1; omega)) (h3 k k0 k1), fun i j i0 ij j1 q => h4 i j i0 ij j1 (fun t t0 t1 => ?_), fun U hU t t0 t1 ht => h5 U hU t t0 t1 (by rw [e 0 (by omega) (by omega) t t0 t1]; exact ht)⟩
  rw [e i i0 (by omega) t t0 t1, e j (by omega) j1 t t0 t1]; exact q t t0 t1
theorem fdn_congr {N H H' : Int} {mul : Int → Int → Int} {S T : Int → Int → Int} {h t : Int} (e : ∀ k, 0 ≤ k → k < H → req N (S k) (T k)) (hh : 0 ≤ h ∧ h < H) (ht : 0 ≤ t ∧ t < N) (hH : H ≤ H') (q : fdn N H mul S h t) : fdn N H' mul T h t := by
  obtain ⟨k, k0, k1, k2, k3, k4⟩ := q
  refine ⟨k, k0, by omega, fun u u0 u1 u2 => ?_, ?_, fun U hU a b u u0 u1 u2 => ?_⟩
  · rw [← e k k0 k1 u u0 u1]; exact k2 u u0 u1 (by rw [e h hh.1 hh.2 u u0 u1]; exact u2)
  · rw [← e k k0 k1 t ht.1 ht.2]; exact k3
  · exact k4 U hU (fun v v0 v1 v2 => a v v0 v1 (by rw [← e h hh.1 hh.2 v v0 v1]; exact v2)) b u u0 u1 (by rw [e k k0 k1 u u0 u1]; exact u2)
/-- the new set over heap h and a turn -/
theorem fh_new {N mk : Int} {mul : Int → Int → Int} {inv : Int → Int} (g : GT N mul inv) {S T mr mr' : Int → Int} {sz t : Int} (hN : N ≤ 120) (h : hpI N mul S sz mk mr) (t0 : 0 ≤ t ∧ t < N) (hs : S t = 0) (e : ∀ m, 0 ≤ m → m < mk → mr' m = mr m) (e2 : mr' mk = t) (c : clS N (mk + 1) T mr' mul) : hpI N mul T (sm T N.toNat) (mk + 1) mr' ∧ sub1 N S T ∧ T t = 1 ∧ ∀ U, SM N mul U → sub1 N S U → U t = 1 → sub1 N T U := by
  obtain ⟨h1, h2, h3, ⟨h4, h5, h6⟩, h7, h8⟩ := h
  obtain ⟨c1, c2, c3⟩ := c
  have st : sub1 N S T := h6 T c1 (fun m m0 m1 => by rw [← e m m0 m1]; exact c2 m m0 (by omega))
  have tt : T t = 1 := by have := c2 mk h1 (by omega); rw [e2] at this; exact this
  have two := SM_two g h4 c1 st t0 hs tt
  have p2 : (2 : Int) ^ (mk + 1).toNat = 2 * 2 ^ mk.toNat := by
    rw [show (mk + 1).toNat = mk.toNat + 1 by omega, Int.pow_succ, Int.mul_comm]
  have le : sm T N.toNat ≤ 120 := by
    have en : ((N.toNat : Nat) : Int) = N := Int.toNat_of_nonneg (by have := g.1; omega)
    have := (sm_b (f := T) (n := N.toNat) (fun i i0 i1 => by rcases c1.1 i i0 (by omega) with z | z <;> omega)).2
    omega
  refine ⟨⟨by omega, ?_, fun m m0 m1 => ?_, ⟨c1, c2, c3⟩, rfl, by omega⟩, st, tt, fun U hU a b => c3 U hU (fun m m0 m1 => ?_)⟩
  · apply Classical.byContradiction
    intro z
    have : mk = 6 := by omega
    rw [this] at h8
    have : (2 : Int) ^ (6 : Int).toNat = 64 := by decide
    omega
  · by_cases q : m = mk
    · rw [q, e2]; exact t0
    · rw [e m m0 (by omega)]; exact h3 m m0 (by omega)
  · by_cases q : m = mk
    · rw [q, e2]; exact b
    · have := h3 m m0 (by omega)
      rw [e m m0 (by omega)]; exact a _ this.1 this.2 (h5 m m0 (by omega))
/-- every closed set is met -/
theorem fh_all {N H : Int} {mul : Int → Int → Int} {inv : Int → Int} (g : GT N mul inv) {S mr : Int → Int → Int} {sz mk : Int → Int} (f : fhI N H mul S sz mk mr) (dn : ∀ h t, 0 ≤ h → h < H → 0 ≤ t → t < N → fdn N H mul S h t) {T : Int → Int} (hT : SM N mul T) : ∃ k, 0 ≤ k ∧ k < H ∧ req N (S k) T := by
  have en : ((N.toNat : Nat) : Int) = N := Int.toNat_of_nonneg (by have := g.1; omega)
  have key : ∀ (w : Nat) (k : Int), 0 ≤ k → k < H → sub1 N (S k) T → (N - sm (S k) N.toNat).toNat = w → ∃ k, 0 ≤ k ∧ k < H ∧ req N (S k) T := by
    intro w
    induction w using Nat.strongRecOn with
    | _ w ih =>
      intro k k0 k1 k2 k3
      have hk := (f.2.2.1 k k0 k1).2.2.2.1.1
      by_cases q : req N (S k) T
      · exact ⟨k, k0, k1, q⟩
      · have : ∃ t, 0 ≤ t ∧ t < N ∧ ¬ S k t = T t := Classical.byContradiction (fun z => q (fun t t0 t1 => Classical.byContradiction (fun y => z ⟨t, t0, t1, y⟩)))
        obtain ⟨t, t0, t1, t2⟩ := this
        have s0 : S k t = 0 ∧ T t = 1 := by
          rcases hk.1 t t0 t1 with a | a
          · rcases hT.1 t t0 t1 with b | b
            · omega
            · exact ⟨a, b⟩
          · have := k2 t t0 t1 a
            omega
        obtain ⟨j, j0, j1, j2, j3, j4⟩ := dn k t k0 k1 t0 t1
        have hj := (f.2.2.1 j j0 j1).2.2.2.1.1
        have lt : sm (S k) N.toNat < sm (S j) N.toNat := by
          refine sm_lt (j := t) (fun i i0 i1 => ?_) t0 (by omega) (by omega)
          rcases hk.1 i i0 (by omega) with a | a
          · rcases hj.1 i i0 (by omega) with b | b <;> omega
          · have := j2 i i0 (by omega) a
            omega
        have le := (sm_b (f := S j) (n := N.toNat) (fun i i0 i1 => by rcases hj.1 i i0 (by omega) with z | z <;> omega)).2
        exact ih _ (by omega) j j0 j1 (j4 T hT k2 s0.2) rfl
  exact key _ 0 (by omega) (by have := f.1; omega) (f.2.2.2.2 T hT) rfl
/-- more closed sets than there is room for -/
def tooMany (N : Int) (mul : Int → Int → Int) : Prop := ∃ F : Int → Int → Int, (∀ i, 0 ≤ i → i ≤ 300 → SM N mul (F i)) ∧ ∀ i j, 0 ≤ i → i < j → j ≤ 300 → ¬ req N (F i) (F j)
section
variable {d : Nat} {G : List gS} {R V : gV} {M : Nat}
def alk (V : gV) (M : Nat) (h k : Int) : Prop := V (M + 10) h = V (M + 10) k ∧ req (V M 5) (mHas V M h) (mHas V M k)
theorem isAlike_c (ly : lay8 G R M) {h k : Int} (hN : 0 ≤ V M 5 ∧ V M 5 ≤ 120) (h0 : 0 ≤ h ∧ h ≤ 300) (k0 : 0 ≤ k ∧ k ≤ 300) : cpI 1 (bi (alk V M h k)) 171 [(4, (M : Int)), (0, h), (0, k)] G R V := by
  refine c_X8_isAlike (t_X8_isAlike_0 ly ⟨by omega, fun _ => ⟨by omega, fun _ => ⟨fun e => ?_, fun e => ⟨?_, rfl⟩⟩⟩⟩)
  · refine pool1 (f := fun x => [some (4, (M : Int)), some (0, h), some (0, k), some (0, x)]) (fun x => 0 ≤ x ∧ x ≤ V M 5 ∧ ∀ t, 0 ≤ t → t < x → V (M + 9) (120 * h + t) = V (M + 9) (120 * k + t)) (fun x => (V M 5 - x).toNat) (fun x hx ih => ?_) 0 ⟨by omega, by omega, fun t t0 t1 => by omega⟩
    obtain ⟨x0, x1, hx⟩ := hx
    refine t_X8_isAlike_19 ly (fun _ => ⟨by omega, fun c => ⟨?_, rfl⟩, fun c => ⟨by omega, by omega, by omega, fun _ => ⟨by omega, by omega, by omega, fun _ => ⟨fun z => ⟨by omega, ih (x + 1) ⟨by omega, by omega, fun t t0 t1 => ?_⟩ (by omega)⟩, fun z => ⟨?_, rfl⟩⟩⟩⟩⟩)
    · rw [bi_t ⟨e, fun t t0 t1 => hx t t0 (by omega)⟩]
    · by_cases q : t = x
      · rw [q]; exact z
      · exact hx t t0 (by omega)
    · rw [bi_f]
      intro w
      exact z (w.2 x x0 c)
  · rw [bi_f]
    intro w
    exact e w.1
theorem among_c (ly : lay8 G R M) {h n : Int} (hN : 0 ≤ V M 5 ∧ V M 5 ≤ 120) (h0 : 0 ≤ h ∧ h ≤ 300) (n0 : 0 ≤ n ∧ n ≤ 300) : cwv 2 (fun r V' => ∃ v, r = some (0, v) ∧ (V' = V ∧ ((v = -1 ∧ ∀ k, 0 ≤ k → k < n → ¬ alk V M k h) ∨ (0 ≤ v ∧ v < n ∧ alk V M v h)))) 172 [(4, (M : Int)), (0, h), (0, n)] G R V := by
  refine c_X8_among (t_X8_among_0 ly ?_)
  refine pool1 (f := fun x => [some (4, (M : Int)), some (0, h), some (0, n), some (0, x)]) (fun x => 0 ≤ x ∧ x ≤ n ∧ ∀ k, 0 ≤ k → k < x → ¬ alk V M k h) (fun x => (n - x).toNat) (fun x hx ih => ?_) 0 ⟨by omega, by omega, fun t t0 t1 => by omega⟩
  obtain ⟨x0, x1, hx⟩ := hx
  refine t_X8_among_2 ly ⟨by omega, by omega, fun c => ⟨-1, rfl, rfl, Or.inl ⟨rfl, fun k a b => hx k a (by omega)⟩⟩, fun c => ?_⟩
  refine cpI_u (Nat.le_refl _) (isAlike_c ly hN (by omega) h0) ⟨bi32 _, fun z => ⟨by omega, ih (x + 1) ⟨by omega, by omega, fun k a b => ?_⟩ (by omega)⟩, fun z => ⟨x, rfl, rfl, Or.inr ⟨x0, c, ?_⟩⟩⟩
  · by_cases q : k = x
    · rw [q]; exact bi_0.mp z
    · exact hx k a (by omega)
  · rcases bi_01 (alk V M x h) with w | w
    · exact absurd w z
    · exact bi_1.mp w
end
