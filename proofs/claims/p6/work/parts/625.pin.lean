/-! cells pinned to what they hold, and let go again -/
def pinT (T : gT) (x p : Nat) (V : gV) : gT := fun c i v => if (x ≤ c ∧ c ≤ x + 7) ∨ c = p then v = V c i else T c i v
theorem pin_th {T : gT} {x p : Nat} {V : gV} (th : TH T V) : TH (pinT T x p V) V := by
  intro c i
  unfold pinT
  split
  · rfl
  · exact th c i
theorem pin_s {T : gT} {x p : Nat} {V : gV} {c : Nat} {i v : Int} (h : (x ≤ c ∧ c ≤ x + 7) ∨ c = p) (q : pinT T x p V c i v) : v = V c i := by
  unfold pinT at q
  rw [if_pos h] at q
  exact q
theorem pin_n {T : gT} {x p : Nat} {V : gV} {c : Nat} (h : ¬ ((x ≤ c ∧ c ≤ x + 7) ∨ c = p)) : pinT T x p V c = T c := by
  funext i v
  unfold pinT
  rw [if_neg h]
theorem pin_tT {G : List gS} {R V : gV} {T : gT} {x p n : Nat} {C D : Int} (t : tT G R T x p n C D) (th : TH T V) : tT G R (pinT T x p V) x p n C D := by
  refine tT.mk (tA.mk t.ly t.c0 t.d0 (fun v h => ?_) (fun v h => ?_) (fun v h => ?_) (fun i v h => ?_) (fun i v h => ?_) (fun i v h => ?_) (fun i v h => ?_)) t.rp t.gp t.cn (fun i v h => ?_)
  · rw [pin_s (by omega) h]; exact (t.pl _).mp (th _ _)
  · rw [pin_s (by omega) h]; exact t.ct _ (th _ _)
  · rw [pin_s (by omega) h]; exact (t.mm _).mp (th _ _)
  · rw [pin_s (by omega) h]; exact (t.iv _ _).mp (th _ _)
  · rw [pin_s (by omega) h]; exact (t.od _ _).mp (th _ _)
  · rw [pin_s (by omega) h]; exact (t.st _ _).mp (th _ _)
  · rw [pin_s (by omega) h]; exact (t.re _ _).mp (th _ _)
  · rw [pin_s (Or.inr rfl) h]; exact (t.pr _ _).mp (th _ _)
def relP (C D : Int) : Nat → Int → Int → Prop
  | 0, i, v => (i = 0 → 1 ≤ v ∧ v ≤ 8) ∧ (i = 1 → 1 ≤ v ∧ v ≤ D) ∧ (i = 2 → 0 ≤ v ∧ v ≤ 4)
  | 2, _, v => 0 ≤ v ∧ v < C
  | 3, _, v => 0 ≤ v ∧ v ≤ 121
  | 4, _, v => 0 ≤ v ∧ v < C
  | 6, _, v => 0 ≤ v ∧ v < C
  | _, _, _ => True
def relT (T : gT) (x p : Nat) (C D : Int) : gT := fun c i v => if c = p then 0 ≤ v ∧ v < C else if x ≤ c ∧ c ≤ x + 7 then relP C D (c - x) i v else T c i v
section
variable {G : List gS} {R V : gV} {T : gT} {x p n : Nat} {C D : Int}
theorem rel_n {c : Nat} (h : c < x ∨ x + 7 < c) (h2 : c ≠ p) : relT T x p C D c = T c := by
  funext i v
  unfold relT
  rw [if_neg h2, if_neg (by omega)]
theorem rel_j (hp : x + 7 < p) (j : Nat) (hj : j ≤ 7) : relT T x p C D (x + j) = relP C D j := by
  funext i v
  unfold relT
  rw [if_neg (by omega), if_pos (by omega), show x + j - x = j by omega]
theorem rel_0 (hp : x + 7 < p) : relT T x p C D x = relP C D 0 := rel_j hp 0 (by omega)
theorem rel_p : relT T x p C D p = fun _ v => 0 ≤ v ∧ v < C := by
  funext i v
  unfold relT
  rw [if_pos rfl]
theorem rel_th (t : tT G R T x p n C D) (hp : x + 7 < p) (th : TH T V) : TH (relT T x p C D) V := by
  intro c i
  by_cases h1 : c = p
  · rw [h1, rel_p]; exact (t.pr _ _).mp (th _ _)
  · by_cases h2 : x ≤ c ∧ c ≤ x + 7
    · obtain ⟨j, e, hj⟩ : ∃ j, c = x + j ∧ j ≤ 7 := ⟨c - x, by omega, by omega⟩
      rw [e, rel_j hp j hj]
      match j, hj with
      | 0, _ => exact ⟨fun h => by subst h; exact (t.pl _).mp (th x 0), fun h => by subst h; exact t.ct _ (th x 1), fun h => by subst h; exact (t.mm _).mp (th x 2)⟩
      | 1, _ => trivial
      | 2, _ => exact (t.iv _ _).mp (th _ _)
      | 3, _ => exact (t.od _ _).mp (th _ _)
      | 4, _ => exact (t.st _ _).mp (th _ _)
      | 5, _ => trivial
      | 6, _ => exact (t.re _ _).mp (th _ _)
      | 7, _ => trivial
      | n + 8, h => omega
    · rw [rel_n (by omega) h1]; exact th c i
theorem rel_tTB (t : tT G R T x p n C D) (hp : x + 7 < p) : tTB G R (relT T x p C D) x p n C D := by
  refine tTB.mk (tAB.mk t.ly t.c0 t.d0 ?_ ?_ ?_ ?_ ?_ ?_ ?_ ?_ ?_ ?_) t.rp t.gp t.cn ?_
  · rw [rel_0 hp]; intro v; exact ⟨fun h => h.1 rfl, fun h => ⟨fun _ => h, fun q => absurd q (by omega), fun q => absurd q (by omega)⟩⟩
  · rw [rel_0 hp]; intro v h; exact h.2.1 rfl
  · rw [rel_0 hp]; intro v; exact ⟨fun h => h.2.2 rfl, fun h => ⟨fun q => absurd q (by omega), fun q => absurd q (by omega), fun _ => h⟩⟩
  · rw [rel_j hp 1 (by omega)]; intro i v; trivial
  · rw [rel_j hp 2 (by omega)]; intro i v; exact Iff.rfl
  · rw [rel_j hp 3 (by omega)]; intro i v; exact Iff.rfl
  · rw [rel_j hp 4 (by omega)]; intro i v; exact Iff.rfl
  · rw [rel_j hp 5 (by omega)]; intro i v; trivial
  · rw [rel_j hp 6 (by omega)]; intro i v; exact Iff.rfl
  · rw [rel_j hp 7 (by omega)]; intro i v; trivial
  · rw [rel_p]; intro i v; exact Iff.rfl
end
