/-! points put beside each other, and pairs of points -/
theorem sm_app (f : Int → Int) (a : Nat) : ∀ b : Nat, sm f (a + b) = sm f a + sm (fun i => f (a + i)) b := by
  intro b
  induction b with
  | zero => show sm f a = sm f a + 0; omega
  | succ b ih =>
    have e1 : sm f (a + (b + 1)) = sm f (a + b) + f ((a + b : Nat) : Int) := by
      have := sm_s f (x := ((a + b : Nat) : Int)) (by omega)
      rw [show ((((a + b : Nat) : Int) + 1).toNat) = a + (b + 1) by omega, show (((a + b : Nat) : Int)).toNat = a + b by omega] at this
      exact this
    have e2 : sm (fun i => f (a + i)) (b + 1) = sm (fun i => f (a + i)) b + f ((a : Int) + (b : Int)) := by
      have := sm_s (fun i => f (a + i)) (x := (b : Int)) (by omega)
      rw [show (((b : Int) + 1).toNat) = b + 1 by omega, show ((b : Int)).toNat = b by omega] at this
      exact this
    rw [e1, e2, ih, show ((a + b : Nat) : Int) = (a : Int) + (b : Int) by omega, Int.add_assoc]
theorem sm_pr (F : Int → Int → Int) {m : Nat} (m0 : 0 < m) : ∀ a : Nat, sm (fun x => F (x / m) (x % m)) (a * m) = sm (fun i => sm (fun j => F i j) m) a := by
  intro a
  induction a with
  | zero => rw [Nat.zero_mul]; rfl
  | succ a ih =>
    rw [Nat.succ_mul, sm_app, ih]
    have e2 : sm (fun i => sm (fun j => F i j) m) (a + 1) = sm (fun i => sm (fun j => F i j) m) a + sm (fun j => F (a : Int) j) m := by
      have := sm_s (fun i => sm (fun j => F i j) m) (x := (a : Int)) (by omega)
      rw [show (((a : Int) + 1).toNat) = a + 1 by omega, show ((a : Int)).toNat = a by omega] at this
      exact this
    rw [e2]
    refine congrArg (fun z => sm (fun i => sm (fun j => F i j) m) a + z) (sm_congr (fun j j0 j1 => ?_))
    (try dsimp only)
    have c : ((a * m : Nat) : Int) = (m : Int) * (a : Int) := by rw [Int.natCast_mul, Int.mul_comm]
    have hd : (((a * m : Nat) : Int) + j) / (m : Int) = a := by
      rw [c, Int.mul_add_ediv_left _ _ (by omega), Int.ediv_eq_zero_of_lt j0 j1]; omega
    have hm : (((a * m : Nat) : Int) + j) % (m : Int) = j := by
      rw [c, Int.mul_add_emod_self_left, Int.emod_eq_of_lt j0 j1]
    rw [hd, hm]
def RZ (N C : Int) (mul S : Int → Int → Int) (fo : Int → Int) (m : Int → Int) : Prop := ∃ (n : Int) (act : Int → Int → Int), AS n N mul act ∧ ∀ d, 0 ≤ d → d < C → m d = fx n N S act (fun _ => True) (fo d)
section
variable {n N H C : Int} {mul act : Int → Int → Int} {inv : Int → Int} {S : Int → Int → Int} {sz co fo nu m m1 m2 : Int → Int}
theorem RZ_c (h : RZ N C mul S fo m1) (e : ∀ d, 0 ≤ d → d < C → m d = m1 d) : RZ N C mul S fo m := by
  obtain ⟨n, act, as, f⟩ := h
  exact ⟨n, act, as, fun d d0 d1 => by rw [e d d0 d1]; exact f d d0 d1⟩
theorem RZ_0 : RZ N C mul S fo (fun _ => 0) := ⟨0, fun x _ => x, ⟨by omega, fun x g x0 x1 _ _ => by omega, fun x x0 x1 => by omega, fun x a b x0 x1 => by omega⟩, fun d _ _ => rfl⟩
theorem RZ_add (h1 : RZ N C mul S fo m1) (h2 : RZ N C mul S fo m2) (gm : ∀ a b, 0 ≤ a → a < N → 0 ≤ b → b < N → 0 ≤ mul a b ∧ mul a b < N) : RZ N C mul S fo (fun d => m1 d + m2 d) := by
  obtain ⟨n1, a1, as1, f1⟩ := h1
  obtain ⟨n2, a2, as2, f2⟩ := h2
  have p1 := as1.1
  have p2 := as2.1
  have l : ∀ x g, x < n1 → (if x < n1 then a1 x g else n1 + a2 (x - n1) g) = a1 x g := fun x g q => if_pos q
  have r : ∀ x g, ¬ x < n1 → (if x < n1 then a1 x g else n1 + a2 (x - n1) g) = n1 + a2 (x - n1) g := fun x g q => if_neg q
  refine ⟨n1 + n2, fun x g => if x < n1 then a1 x g else n1 + a2 (x - n1) g, ⟨by omega, fun x g x0 x1 g0 g1 => ?_, fun x x0 x1 => ?_, fun x a b x0 x1 q0 q1 b0 b1 => ?_⟩, fun d d0 d1 => ?_⟩
  · (try dsimp only)
    by_cases q : x < n1
    · rw [l x g q]; have := as1.2.1 x g x0 q g0 g1; omega
    · rw [r x g q]; have := as2.2.1 (x - n1) g (by omega) (by omega) g0 g1; omega
  · (try dsimp only)
    by_cases q : x < n1
    · rw [l x 0 q]; exact as1.2.2.1 x x0 q
    · rw [r x 0 q, as2.2.2.1 (x - n1) (by omega) (by omega)]; omega
  · (try dsimp only)
    by_cases q : x < n1
    · have y := as1.2.1 x a x0 q q0 q1
      rw [l x _ q, l x a q, l _ b y.2]
      exact as1.2.2.2 x a b x0 q q0 q1 b0 b1
    · have y := as2.2.1 (x - n1) a (by omega) (by omega) q0 q1
      rw [r x _ q, r x a q, r _ b (by omega), show n1 + a2 (x - n1) a - n1 = a2 (x - n1) a by omega]
      rw [as2.2.2.2 (x - n1) a b (by omega) (by omega) q0 q1 b0 b1]
  · (try dsimp only)
    rw [f1 d d0 d1, f2 d d0 d1]
    unfold fx
    rw [show (n1 + n2).toNat = n1.toNat + n2.toNat by omega, sm_app]
    have en : ((n1.toNat : Nat) : Int) = n1 := by omega
    have b1 : sm (fun x => bi (True ∧ ∀ t, 0 ≤ t → t < N → S (fo d) t = 1 → (if x < n1 then a1 x t else n1 + a2 (x - n1) t) = x)) n1.toNat = sm (fun x => bi (True ∧ ∀ t, 0 ≤ t → t < N → S (fo d) t = 1 → a1 x t = x)) n1.toNat := sm_congr (fun x x0 x1 => by
      (try dsimp only)
      refine bi_c ⟨fun e => ⟨trivial, fun t t0 t1 q => ?_⟩, fun e => ⟨trivial, fun t t0 t1 q => ?_⟩⟩
      · have := e.2 t t0 t1 q
        rw [l x t (by omega)] at this
        exact this
      · rw [l x t (by omega)]; exact e.2 t t0 t1 q)
    have b2 : sm (fun i => bi (True ∧ ∀ t, 0 ≤ t → t < N → S (fo d) t = 1 → (if ((n1.toNat : Nat) : Int) + i < n1 then a1 (((n1.toNat : Nat) : Int) + i) t else n1 + a2 (((n1.toNat : Nat) : Int) + i - n1) t) = ((n1.toNat : Nat) : Int) + i)) n2.toNat = sm (fun x => bi (True ∧ ∀ t, 0 ≤ t → t < N → S (fo d) t = 1 → a2 x t = x)) n2.toNat := sm_congr (fun x x0 x1 => by
      (try dsimp only)
      refine bi_c ⟨fun e => ⟨trivial, fun t t0 t1 q => ?_⟩, fun e => ⟨trivial, fun t t0 t1 q => ?_⟩⟩
      · have := e.2 t t0 t1 q
        rw [r _ t (by omega), en, show n1 + x - n1 = x by omega] at this
        omega
      · have := e.2 t t0 t1 q
        rw [r _ t (by omega), en, show n1 + x - n1 = x by omega, this])
    exact (congr (congrArg HAdd.hAdd b1) b2).symm
end
