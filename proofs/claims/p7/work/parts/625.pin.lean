/-! cells pinned to what they hold, and let go again -/
def pinT (T : gT) (x p : Nat) (V : gV) : gT := fun c i v => if (x ≤ c ∧ c ≤ x + 7) ∨ c = p then v = V c i else T c i v
theorem pin_th {T : gT} {x p : Nat} {V : gV} (th : TH T V) : TH (pinT T x p V) V := by
  intro c i
  unfold pinT
  split
  · rfl
  · exact th c i
theorem pin_s {T : gT} {x p : Nat} {V : gV} {c : Nat} {i v : Int} (h : (x ≤ c ∧ c ≤ x + 7) ∨ c = p) (q : pinT T x p V c i v) : v = V c i := by
  unfold pinT at q
  rw [if_pos h] at q
  exact q
theorem pin_n {T : gT} {x p : Nat} {V : gV} {c : Nat} (h : ¬ ((x ≤ c ∧ c ≤ x + 7) ∨ c = p)) : pinT T x p V c = T c := by
  funext i v
  unfold pinT
  rw [if_neg h]
theorem pin_tT {G : List gS} {R V : gV} {T : gT} {x p n : Nat} {C D : Int} (t : tT G R T x p n C D) (th : TH T V) : tT G R (pinT T x p V) x p n C D := by
  refine tT.mk (tA.mk t.ly t.c0 t.d0 (fun v h => ?_) (fun v h => ?_) (fun v h => ?_) (fun i v h => ?_) (fun i v h => ?_) (fun i v h => ?_) (fun i v h => ?_)) t.rp t.gp t.cn (fun i v h => ?_)
  · rw [pin_s (by omega) h]; exact (t.pl _).mp (th _ _)
  · rw [pin_s (by omega) h]; exact t.ct _ (th _ _)
  · rw [pin_s (by omega) h]; exact (t.mm _).mp (th _ _)
  · rw [pin_s (by omega) h]; exact (t.iv _ _).mp (th _ _)
  · rw [pin_s (by omega) h]; exact (t.od _ _).mp (th _ _)
  · rw [pin_s (by omega) h]; exact (t.st _ _).mp (th _ _)
  · rw [pin_s (by omega) h]; exact (t.re _ _).mp (th _ _)
  · rw [pin_s (Or.inr rfl) h]; exact (t.pr _ _).mp (th _ _)
def relP (C D : Int) : Nat → Int → Int → Prop
  | 0, i, v => (i = 0 → 1 ≤ v ∧ v ≤ 8) ∧ (i = 1 → 1 ≤ v ∧ v ≤ D) ∧ (i = 2 → 0 ≤ v ∧ v ≤ 4)
  | 2, _, v => 0 ≤ v ∧ v < C
  | 3, _, v => 0 ≤ v ∧ v ≤ 121
  | 4, _, v => 0 ≤ v ∧ v < C
  | 6, _, v => 0 ≤ v ∧ v < C
  | _, _, _ => True
def relT (T : gT) (x p : Nat) (C D : Int) : gT := fun c i v => if c = p then 0 ≤ v ∧ v < C else if x ≤ c ∧ c ≤ x + 7 then relP C D (c - x) i v else T c i v
section
variable {G : List gS} {R V : gV} {T : gT} {x p n : Nat} {C D : Int}
theorem rel_n {c : Nat} (h : c < x ∨ x + 7 < c) (h2 : c ≠ p) : relT T x p C D c = T c := by
  funext i v
  unfold relT
  rw [if_neg h2, if_neg (by omega)]
theorem rel_j (hp : x + 7 < p) (j : Nat) (hj : j ≤ 7) : relT T x p C D (x + j) = relP C D j := by
  funext i v
  unfold relT
  rw [if_neg (by omega), if_pos (by omega), show x + j - x = j by omega]
theorem rel_0 (hp : x + 7 < p) : relT T x p C D x = relP C D 0 := rel_j hp 0 (by omega)
theorem rel_p : relT T x p C D p = fun _ v => 0 ≤ v ∧ v < C := by
  funext i v
  unfold relT
  rw [if_pos rfl]
theorem rel_th (t : tT G R T x p n C D) (hp : x + 7 < p) (th : TH T V) : TH (relT T x p C D) V := by
  intro c i
  by_cases h1 : c = p
  · rw [h1, rel_p]; exact (t.pr _ _).mp (th _ _)
  · by_cases h2 : x ≤ c ∧ c ≤ x + 7
    · obtain ⟨j, e, hj⟩ : ∃ j, c = x + j ∧ j ≤ 7 := ⟨c - x, by omega, by omega⟩
      rw [e, rel_j hp j hj]
      match j, hj with
      | 0, _ => exact ⟨fun h => by subst h; exact (t.pl _).mp (th x 0), fun h => by subst h; exact t.ct _ (th x 1), fun h => by subst h; exact (t.mm _).mp (th x 2)⟩
      | 1, _ => trivial
      | 2, _ => exact (t.iv _ _).mp (th _ _)
      | 3, _ => exact (t.od _ _).mp (th _ _)
      | 4, _ => exact (t.st _ _).mp (th _ _)
      | 5, _ => trivial
      | 6, _ => exact (t.re _ _).mp (th _ _)
      | 7, _ => trivial
      | n + 8, h => omega
    · rw [rel_n (by omega) h1]; exact th c i
theorem rel_tTB (t : tT G R T x p n C D) (hp : x + 7 < p) : tTB G R (relT T x p C D) x p n C D := by
  refine tTB.mk (tAB.mk t.ly t.c0 t.d0 ?_ ?_ ?_ ?_ ?_ ?_ ?_ ?_ ?_ ?_) t.rp t.gp t.cn ?_
  · rw [rel_0 hp]; intro v; exact ⟨fun h => h.1 rfl, fun h => ⟨fun _ => h, fun q => absurd q (by omega), fun q => absurd q (by omega)⟩⟩
  · rw [rel_0 hp]; intro v h; exact h.2.1 rfl
  · rw [rel_0 hp]; intro v; exact ⟨fun h => h.2.2 rfl, fun h => ⟨fun q => absurd q (by omega), fun q => absurd q (by omega), fun _ => h⟩⟩
  · rw [rel_j hp 1 (by omega)]; intro i v; trivial
  · rw [rel_j hp 2 (by omega)]; intro i v; exact Iff.rfl
  · rw [rel_j hp 3 (by omega)]; intro i v; exact Iff.rfl
  · rw [rel_j hp 4 (by omega)]; intro i v; exact Iff.rfl
  · rw [rel_j hp 5 (by omega)]; intro i v; trivial
  · rw [rel_j hp 6 (by omega)]; intro i v; exact Iff.rfl
  · rw [rel_j hp 7 (by omega)]; intro i v; trivial
  · rw [rel_p]; intro i v; exact Iff.rfl
end
/-! what a group's turns are: places, how many, codes, products -/
abbrev gD : Type := Int → Int → Int
def lkT (T : gT) (R : gV) (g : Nat) (d : gD) : Prop := (∀ v, T (g + 1) 0 v → v = d 0 0) ∧ (∀ v, T (g + 1) 1 v → v = d 0 1) ∧ (∀ k v, 0 ≤ k → k < d 0 1 → T (g + 2) k v → v = d 1 k) ∧ (∀ p : Nat, R (g + 1) 10 = (p : Int) → ∀ s t v, 0 ≤ s → s < d 0 1 → 0 ≤ t → t < d 0 1 → T p (s * d 0 1 + t) v → v = d (2 + s) t)
theorem lkT_m {T T' : gT} {R R' : gV} {g : Nat} {d : gD} (h : lkT T R g d) (h1 : T' (g + 1) = T (g + 1)) (h2 : T' (g + 2) = T (g + 2)) (hR : R' (g + 1) 10 = R (g + 1) 10) (hp : ∀ p : Nat, R (g + 1) 10 = (p : Int) → T' p = T p) : lkT T' R' g d := by
  obtain ⟨a, b, c, e⟩ := h
  refine ⟨by rw [h1]; exact a, by rw [h1]; exact b, by rw [h2]; exact c, fun p q => ?_⟩
  rw [hR] at q
  rw [hp p q]
  exact e p q
def dT0 : gD := fun a b => if a = 0 then 1 else if a = 1 then 342391 else 0
def dV (V : gV) (x p : Nat) : gD := fun a b => if a = 0 then V x b else if a = 1 then V (x + 1) b else V p ((a - 2) * V x 1 + b)
theorem dV_00 {V : gV} {x p : Nat} : dV V x p 0 0 = V x 0 := rfl
theorem dV_01 {V : gV} {x p : Nat} : dV V x p 0 1 = V x 1 := rfl
theorem dV_1 {V : gV} {x p : Nat} : dV V x p 1 = fun b => V (x + 1) b := by
  funext b
  unfold dV
  rw [if_neg (by omega), if_pos rfl]
theorem dV_m {V : gV} {x p : Nat} {s t : Int} (s0 : 0 ≤ s) : dV V x p (2 + s) t = V p (s * V x 1 + t) := by
  unfold dV
  rw [if_neg (by omega), if_neg (by omega), show 2 + s - 2 = s by omega]
theorem lk_pin {T : gT} {R V : gV} {g p : Nat} (h : ∀ c, ((g + 1 ≤ c ∧ c ≤ g + 8) ∨ c = p) → ∀ i v, T c i v → v = V c i) (hp : R (g + 1) 10 = (p : Int)) : lkT T R g (dV V (g + 1) p) := by
  refine ⟨fun v q => h _ (by omega) _ _ q, fun v q => h _ (by omega) _ _ q, fun k v _ _ q => h _ (by omega) _ _ q, fun p' e s t v s0 s1 t0 t1 q => ?_⟩
  have ep : p' = p := by omega
  rw [ep] at q
  have := h p (Or.inr rfl) _ _ q
  rw [this, dV_m s0, dV_01]
