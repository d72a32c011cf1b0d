/-! cells pinned to what they hold, and let go again -/
def pinT (T : gT) (x p : Nat) (V : gV) : gT := fun c i v => if (x ≤ c ∧ c ≤ x + 7) ∨ c = p then v = V c i else T c i v
theorem pin_th {T : gT} {x p : Nat} {V : gV} (th : TH T V) : TH (pinT T x p V) V := by
  intro c i
  unfold pinT
  split
  · rfl
  · exact th c i
theorem pin_s {T : gT} {x p : Nat} {V : gV} {c : Nat} {i v : Int} (h : (x ≤ c ∧ c ≤ x + 7) ∨ c = p) (q : pinT T x p V c i v) : v = V c i := by
  unfold pinT at q
  rw [if_pos h] at q
  exact q
theorem pin_n {T : gT} {x p : Nat} {V : gV} {c : Nat} (h : ¬ ((x ≤ c ∧ c ≤ x + 7) ∨ c = p)) : pinT T x p V c = T c := by
  funext i v
  unfold pinT
  rw [if_neg h]
theorem pin_tT {G : List gS} {R V : gV} {T : gT} {x p n : Nat} {C D : Int} (t : tT G R T x p n C D) (th : TH T V) : tT G R (pinT T x p V) x p n C D := by
  refine tT.mk (tA.mk t.ly t.c0 t.d0 (fun v h => ?_) (fun v h => ?_) (fun v h => ?_) (fun i v h => ?_) (fun i v h => ?_) (fun i v h => ?_) (fun i v h => ?_)) t.rp t.gp t.cn (fun i v h => ?_)
  · rw [pin_s (by omega) h]; exact (t.pl _).mp (th _ _)
  · rw [pin_s (by omega) h]; exact t.ct _ (th _ _)
  · rw [pin_s (by omega) h]; exact (t.mm _).mp (th _ _)
  · rw [pin_s (by omega) h]; exact (t.iv _ _).mp (th _ _)
  · rw [pin_s (by omega) h]; exact (t.od _ _).mp (th _ _)
  · rw [pin_s (by omega) h]; exact (t.st _ _).mp (th _ _)
  · rw [pin_s (by omega) h]; exact (t.re _ _).mp (th _ _)
  · rw [pin_s (Or.inr rfl) h]; exact (t.pr _ _).mp (th _ _)
theorem tTB_m {G : List gS} {R : gV} {T T' : gT} {x p n : Nat} {C D : Int} (h : tTB G R T x p n C D) (hT : ∀ c, x ≤ c → c ≤ x + 7 → T' c = T c) (hp : T' p = T p) : tTB G R T' x p n C D := by
  have e : ∀ j, j ≤ 7 → T' (x + j) = T (x + j) := fun j hj => hT _ (by omega) (by omega)
  have e0 : T' x = T x := e 0 (by omega)
  exact tTB.mk (tAB.mk h.ly h.c0 h.d0 (by rw [e0]; exact h.pl) (by rw [e0]; exact h.ct) (by rw [e0]; exact h.mm) (by rw [e 1 (by omega)]; exact h.co) (by rw [e 2 (by omega)]; exact h.iv) (by rw [e 3 (by omega)]; exact h.od) (by rw [e 4 (by omega)]; exact h.st) (by rw [e 5 (by omega)]; exact h.mc) (by rw [e 6 (by omega)]; exact h.re) (by rw [e 7 (by omega)]; exact h.ir)) h.rp h.gp h.cn (by rw [hp]; exact h.pr)
def relP (C D : Int) : Nat → Int → Int → Prop
  | 0, i, v => (i = 0 → 1 ≤ v ∧ v ≤ 8) ∧ (i = 1 → 1 ≤ v ∧ v ≤ D) ∧ (i = 2 → 0 ≤ v ∧ v ≤ 4)
  | 2, _, v => 0 ≤ v ∧ v < C
  | 3, _, v => 0 ≤ v ∧ v ≤ 121
  | 4, _, v => 0 ≤ v ∧ v < C
  | 6, _, v => 0 ≤ v ∧ v < C
  | _, _, _ => True
def relT (T : gT) (x p : Nat) (C D : Int) : gT := fun c i v => if c = p then 0 ≤ v ∧ v < C else if x ≤ c ∧ c ≤ x + 7 then relP C D (c - x) i v else T c i v
section
variable {G : List gS} {R V : gV} {T : gT} {x p n : Nat} {C D : Int}
theorem rel_n {c : Nat} (h : c < x ∨ x + 7 < c) (h2 : c ≠ p) : relT T x p C D c = T c := by
  funext i v
  unfold relT
  rw [if_neg h2, if_neg (by omega)]
theorem rel_j (hp : x + 7 < p) (j : Nat) (hj : j ≤ 7) : relT T x p C D (x + j) = relP C D j := by
  funext i v
  unfold relT
  rw [if_neg (by omega), if_pos (by omega), show x + j - x = j by omega]
theorem rel_0 (hp : x + 7 < p) : relT T x p C D x = relP C D 0 := rel_j hp 0 (by omega)
theorem rel_p : relT T x p C D p = fun _ v => 0 ≤ v ∧ v < C := by
  funext i v
  unfold relT
  rw [if_pos rfl]
theorem rel_th (t : tT G R T x p n C D) (hp : x + 7 < p) (th : TH T V) : TH (relT T x p C D) V := by
  intro c i
  by_cases h1 : c = p
  · rw [h1, rel_p]; exact (t.pr _ _).mp (th _ _)
  · by_cases h2 : x ≤ c ∧ c ≤ x + 7
    · obtain ⟨j, e, hj⟩ : ∃ j, c = x + j ∧ j ≤ 7 := ⟨c - x, by omega, by omega⟩
      rw [e, rel_j hp j hj]
      match j, hj with
      | 0, _ => exact ⟨fun h => by subst h; exact (t.pl _).mp (th x 0), fun h => by subst h; exact t.ct _ (th x 1), fun h => by subst h; exact (t.mm _).mp (th x 2)⟩
      | 1, _ => trivial
      | 2, _ => exact (t.iv _ _).mp (th _ _)
      | 3, _ => exact (t.od _ _).mp (th _ _)
      | 4, _ => exact (t.st _ _).mp (th _ _)
      | 5, _ => trivial
      | 6, _ => exact (t.re _ _).mp (th _ _)
      | 7, _ => trivial
      | n + 8, h => omega
    · rw [rel_n (by omega) h1]; exact th c i
theorem rel_tTB (t : tT G R T x p n C D) (hp : x + 7 < p) : tTB G R (relT T x p C D) x p n C D := by
  refine tTB.mk (tAB.mk t.ly t.c0 t.d0 ?_ ?_ ?_ ?_ ?_ ?_ ?_ ?_ ?_ ?_) t.rp t.gp t.cn ?_
  · rw [rel_0 hp]; intro v; exact ⟨fun h => h.1 rfl, fun h => ⟨fun _ => h, fun q => absurd q (by omega), fun q => absurd q (by omega)⟩⟩
  · rw [rel_0 hp]; intro v h; exact h.2.1 rfl
  · rw [rel_0 hp]; intro v; exact ⟨fun h => h.2.2 rfl, fun h => ⟨fun q => absurd q (by omega), fun q => absurd q (by omega), fun _ => h⟩⟩
  · rw [rel_j hp 1 (by omega)]; intro i v; trivial
  · rw [rel_j hp 2 (by omega)]; intro i v; exact Iff.rfl
  · rw [rel_j hp 3 (by omega)]; intro i v; exact Iff.rfl
  · rw [rel_j hp 4 (by omega)]; intro i v; exact Iff.rfl
  · rw [rel_j hp 5 (by omega)]; intro i v; trivial
  · rw [rel_j hp 6 (by omega)]; intro i v; exact Iff.rfl
  · rw [rel_j hp 7 (by omega)]; intro i v; trivial
  · rw [rel_p]; intro i v; exact Iff.rfl
end
def rhP : Nat → Int → Int → Prop
  | 3, _, v => 0 ≤ v ∧ v ≤ 14400
  | 4, _, v => 0 ≤ v ∧ v < 300
  | 5, _, v => 0 ≤ v ∧ v < 300
  | 6, _, v => -1 ≤ v ∧ v < 300
  | 7, _, v => 0 ≤ v ∧ v < 300
  | 8, _, v => 0 ≤ v ∧ v ≤ 300
  | 10, _, v => 0 ≤ v ∧ v ≤ 120
  | 11, _, v => 0 ≤ v ∧ v < 300
  | _, _, _ => True
def relH (T : gT) (y o : Nat) : gT := fun c i v => if c = o then 0 ≤ v ∧ v ≤ 90000 else if c = y then (i = 0 → 1 ≤ v ∧ v ≤ 300) ∧ (i = 1 → T y 1 v) else if y ≤ c ∧ c ≤ y + 11 then rhP (c - y) i v else T c i v
section
variable {G : List gS} {R V : gV} {T : gT} {y o m : Nat} {E : Int}
theorem rlH_n {c : Nat} (h : c < y ∨ y + 11 < c) (h2 : c ≠ o) : relH T y o c = T c := by
  funext i v
  unfold relH
  rw [if_neg h2, if_neg (by omega), if_neg (by omega)]
theorem rlH_j (hp : y + 11 < o) (j : Nat) (j1 : 1 ≤ j) (hj : j ≤ 11) : relH T y o (y + j) = rhP j := by
  funext i v
  unfold relH
  rw [if_neg (by omega), if_neg (by omega), if_pos (by omega), show y + j - y = j by omega]
theorem rlH_0 (hp : y + 11 < o) {i v : Int} : relH T y o y i v ↔ (i = 0 → 1 ≤ v ∧ v ≤ 300) ∧ (i = 1 → T y 1 v) := by
  unfold relH
  rw [if_neg (by omega), if_pos rfl]
theorem rlH_o : relH T y o o = fun _ v => 0 ≤ v ∧ v ≤ 90000 := by
  funext i v
  unfold relH
  rw [if_pos rfl]
theorem rlH_th (t : hT G R T y o m E) (hp : y + 11 < o) (th : TH T V) : TH (relH T y o) V := by
  intro c i
  by_cases h1 : c = o
  · rw [h1, rlH_o]; exact (t.ov _ _).mp (th _ _)
  · by_cases h2 : y ≤ c ∧ c ≤ y + 11
    · obtain ⟨j, e, hj⟩ : ∃ j, c = y + j ∧ j ≤ 11 := ⟨c - y, by omega, by omega⟩
      by_cases j0 : j = 0
      · rw [e, j0]
        exact (rlH_0 hp).mpr ⟨fun h => by subst h; exact t.a.cn _ (th y 0), fun h => by subst h; exact th y 1⟩
      rw [e, rlH_j hp j (by omega) hj]
      match j, hj with
      | 0, _ => exact absurd rfl j0
      | 1, _ => trivial
      | 2, _ => trivial
      | 3, _ => exact (t.a.sz _ _).mp (th _ _)
      | 4, _ => exact t.a.co _ _ (th _ _)
      | 5, _ => exact (t.a.mb _ _).mp (th _ _)
      | 6, _ => exact (t.a.de _ _).mp (th _ _)
      | 7, _ => exact (t.a.fi _ _).mp (th _ _)
      | 8, _ => exact (t.a.nu _ _).mp (th _ _)
      | 9, _ => trivial
      | 10, _ => exact (t.a.sp _ _).mp (th _ _)
      | 11, _ => exact (t.a.so _ _).mp (th _ _)
      | n + 12, h => omega
    · rw [rlH_n (by omega) h1]; exact th c i
theorem rlH_hB (hp : y + 11 < o) : hB (relH T y o) y o := by
  refine hB.mk ?_ ?_ ?_ ?_ ?_ ?_ ?_ ?_ ?_ ?_ ?_ ?_ ?_
  · intro v; exact (rlH_0 hp).trans ⟨fun h => h.1 rfl, fun h => ⟨fun _ => h, fun q => absurd q (by omega)⟩⟩
  · rw [rlH_j hp 1 (by omega) (by omega)]; intro i v; trivial
  · rw [rlH_j hp 2 (by omega) (by omega)]; intro i v; trivial
  · rw [rlH_j hp 3 (by omega) (by omega)]; intro i v; exact Iff.rfl
  · rw [rlH_j hp 4 (by omega) (by omega)]; intro i v; exact Iff.rfl
  · rw [rlH_j hp 5 (by omega) (by omega)]; intro i v; exact Iff.rfl
  · rw [rlH_j hp 7 (by omega) (by omega)]; intro i v; exact Iff.rfl
  · rw [rlH_j hp 8 (by omega) (by omega)]; intro i v; exact Iff.rfl
  · rw [rlH_j hp 9 (by omega) (by omega)]; intro i v; trivial
  · rw [rlH_j hp 10 (by omega) (by omega)]; intro i v; exact Iff.rfl
  · rw [rlH_j hp 11 (by omega) (by omega)]; intro i v; exact Iff.rfl
  · rw [rlH_o]; intro i v; exact Iff.rfl
  · rw [rlH_j hp 6 (by omega) (by omega)]; intro i v; exact Iff.rfl
theorem rlH_hT (t : hT G R T y o m E) (hp : y + 11 < o) : hT G R (relH T y o) y o m E := by
  have b := rlH_hB (T := T) hp
  exact hT.mk (hA.mk t.a.ly (fun v => (b.cn v).mp) (fun v q => t.a.cl v (((rlH_0 hp).mp q).2 rfl)) (fun i v => (b.sz i v).mp) (fun i v => (b.co i v).mp) (fun i v => (b.mb i v).mp) (fun i v => (b.de i v).mp) (fun i v => (b.fi i v).mp) (fun i v => (b.nu i v).mp) (fun i v => (b.sp i v).mp) (fun i v => (b.so i v).mp)) t.ro t.go t.e0 t.em (fun v q => t.cE v (((rlH_0 hp).mp q).2 rfl)) (fun i v => (b.ov i v).mp)
end
/-! what a group is: places, how many turns, heaps and classes, codes, products; the heaps' rows -/
abbrev gD : Type := Int → Int → Int
def lkT (T : gT) (R : gV) (g : Nat) (d : gD) : Prop := (∀ v, T (g + 1) 0 v → v = d 0 0) ∧ (∀ v, T (g + 1) 1 v → v = d 0 1) ∧ (∀ k v, 0 ≤ k → k < d 0 1 → T (g + 2) k v → v = d 1 k) ∧ (∀ p : Nat, R (g + 1) 10 = (p : Int) → ∀ s t v, 0 ≤ s → s < d 0 1 → 0 ≤ t → t < d 0 1 → T p (s * d 0 1 + t) v → v = d (2 + s) t) ∧ (∀ k v, 0 ≤ k → k < d 0 1 → T (g + 3) k v → v = d 230 k) ∧ (∀ k v, 0 ≤ k → k < d 0 1 → T (g + 4) k v → v = d 231 k) ∧ (∀ v, T (g + 10) 0 v → v = d 0 2) ∧ (∀ v, T (g + 10) 1 v → v = d 0 3) ∧ (∀ j : Nat, 1 ≤ j → j ≤ 11 → j ≠ 6 → ∀ i v, T (g + 10 + j) i v → v = d (200 + j) i) ∧ (∀ o : Nat, R (g + 10) 13 = (o : Int) → ∀ i v, T o i v → v = d 220 i) ∧ (∀ i, 0 ≤ i → i < d 0 2 → T (g + 16) i (d 206 i) ∧ ∀ v, T (g + 16) i v → v = -1 ∨ v = d 206 i)
theorem lkT_m {T T' : gT} {R R' : gV} {g : Nat} {d : gD} (h : lkT T R g d) (hc : ∀ c, g + 1 ≤ c → c ≤ g + 21 → T' c = T c) (hR : R' (g + 1) 10 = R (g + 1) 10) (hR2 : R' (g + 10) 13 = R (g + 10) 13) (hp : ∀ p : Nat, (R (g + 1) 10 = (p : Int) ∨ R (g + 10) 13 = (p : Int)) → T' p = T p) : lkT T' R' g d := by
  obtain ⟨a, b, c, e, f1, f2, f3, f4, f5, f6, f7⟩ := h
  refine ⟨by rw [hc _ (by omega) (by omega)]; exact a, by rw [hc _ (by omega) (by omega)]; exact b, by rw [hc _ (by omega) (by omega)]; exact c, fun p q => ?_, by rw [hc _ (by omega) (by omega)]; exact f1, by rw [hc _ (by omega) (by omega)]; exact f2, by rw [hc _ (by omega) (by omega)]; exact f3, by rw [hc _ (by omega) (by omega)]; exact f4, fun j j1 j2 j3 => by rw [hc _ (by omega) (by omega)]; exact f5 j j1 j2 j3, fun p q => ?_, by rw [hc _ (by omega) (by omega)]; exact f7⟩
  · rw [hR] at q
    rw [hp p (Or.inl q)]
    exact e p q
  · rw [hR2] at q
    rw [hp p (Or.inr q)]
    exact f6 p q
def dT0 : gD := fun a b => if a = 0 then 1 else if a = 1 then 342391 else if (a = 201 ∨ a = 203 ∨ a = 208 ∨ a = 209 ∨ a = 210 ∨ a = 220 ∨ a = 231) ∧ b = 0 then 1 else 0
theorem dT_z {a b : Int} (h0 : a ≠ 0) (h1 : a ≠ 1) (h2 : ¬ (a = 201 ∨ a = 203 ∨ a = 208 ∨ a = 209 ∨ a = 210 ∨ a = 220 ∨ a = 231)) : dT0 a b = 0 := by
  unfold dT0
  rw [if_neg h0, if_neg h1, if_neg (fun q => h2 q.1)]
def dV (V : gV) (g p o : Nat) (qd : Int → Int) : gD := fun a b => if a = 206 then qd b else if a = 0 then (if b = 0 then V (g + 1) 0 else if b = 1 then V (g + 1) 1 else if b = 2 then V (g + 10) 0 else V (g + 10) 1) else if a = 1 then V (g + 2) b else if a = 230 then V (g + 3) b else if a = 231 then V (g + 4) b else if a = 220 then V o b else if 200 < a then V (g + 10 + (a - 200).toNat) b else V p ((a - 2) * V (g + 1) 1 + b)
section
variable {V : gV} {g p o : Nat} {qd : Int → Int}
theorem dV_00 : dV V g p o qd 0 0 = V (g + 1) 0 := by unfold dV; rw [if_neg (by omega), if_pos rfl, if_pos rfl]
theorem dV_01 : dV V g p o qd 0 1 = V (g + 1) 1 := by unfold dV; rw [if_neg (by omega), if_pos rfl, if_neg (by omega), if_pos rfl]
theorem dV_02 : dV V g p o qd 0 2 = V (g + 10) 0 := by unfold dV; rw [if_neg (by omega), if_pos rfl, if_neg (by omega), if_neg (by omega), if_pos rfl]
theorem dV_03 : dV V g p o qd 0 3 = V (g + 10) 1 := by unfold dV; rw [if_neg (by omega), if_pos rfl, if_neg (by omega), if_neg (by omega), if_neg (by omega)]
theorem dV_1 : dV V g p o qd 1 = fun b => V (g + 2) b := by
  funext b
  unfold dV
  rw [if_neg (by omega), if_neg (by omega), if_pos rfl]
theorem dV_m {s t : Int} (s0 : 0 ≤ s) (s1 : s < 120) : dV V g p o qd (2 + s) t = V p (s * V (g + 1) 1 + t) := by
  unfold dV
  rw [if_neg (by omega), if_neg (by omega), if_neg (by omega), if_neg (by omega), if_neg (by omega), if_neg (by omega), if_neg (by omega), show 2 + s - 2 = s by omega]
theorem dV_i : dV V g p o qd 230 = fun b => V (g + 3) b := by
  funext b
  unfold dV
  rw [if_neg (by omega), if_neg (by omega), if_neg (by omega), if_pos rfl]
theorem dV_o : dV V g p o qd 231 = fun b => V (g + 4) b := by
  funext b
  unfold dV
  rw [if_neg (by omega), if_neg (by omega), if_neg (by omega), if_neg (by omega), if_pos rfl]
theorem dV_v : dV V g p o qd 220 = fun b => V o b := by
  funext b
  unfold dV
  rw [if_neg (by omega), if_neg (by omega), if_neg (by omega), if_neg (by omega), if_neg (by omega), if_pos rfl]
theorem dV_h (j : Nat) (j1 : 1 ≤ j) (j2 : j ≤ 11) (j3 : j ≠ 6) : dV V g p o qd (200 + j) = fun b => V (g + 10 + j) b := by
  funext b
  unfold dV
  rw [if_neg (by omega), if_neg (by omega), if_neg (by omega), if_neg (by omega), if_neg (by omega), if_neg (by omega), if_pos (by omega), show (200 + (j : Int) - 200).toNat = j by omega]
theorem dV_q : dV V g p o qd 206 = qd := by
  funext b
  unfold dV
  rw [if_pos rfl]
end
/-- the turns' cells hold just what V says -/
def pnT (T : gT) (g p : Nat) (V : gV) : Prop := ∀ c, ((g + 1 ≤ c ∧ c ≤ g + 8) ∨ c = p) → ∀ i v, T c i v → v = V c i
/-- and the heaps' -/
def pnH (T : gT) (g o : Nat) (V : gV) : Prop := (∀ c, ((g + 11 ≤ c ∧ c ≤ g + 21 ∧ c ≠ g + 16) ∨ c = o) → ∀ i v, T c i v → v = V c i) ∧ (∀ v, T (g + 10) 0 v → v = V (g + 10) 0) ∧ (∀ v, T (g + 10) 1 v → v = V (g + 10) 1)
/-- what is derived of heaps is not known yet, or it is qd -/
def pnQ (T : gT) (g : Nat) (V : gV) (qd : Int → Int) : Prop := ∀ i, 0 ≤ i → i < V (g + 10) 0 → T (g + 16) i (qd i) ∧ ∀ v, T (g + 16) i v → v = -1 ∨ v = qd i
theorem lk_pin {T : gT} {R V : gV} {g p o : Nat} {qd : Int → Int} (h : pnT T g p V) (h2 : pnH T g o V) (h3 : pnQ T g V qd) (hp : R (g + 1) 10 = (p : Int)) (ho : R (g + 10) 13 = (o : Int)) (hN : V (g + 1) 1 ≤ 120) : lkT T R g (dV V g p o qd) := by
  refine ⟨fun v q => by rw [dV_00]; exact h _ (by omega) _ _ q, fun v q => by rw [dV_01]; exact h _ (by omega) _ _ q, fun k v _ _ q => by rw [dV_1]; exact h _ (by omega) _ _ q, fun p' e s t v s0 s1 t0 t1 q => ?_, fun k v _ _ q => by rw [dV_i]; exact h _ (by omega) _ _ q, fun k v _ _ q => by rw [dV_o]; exact h _ (by omega) _ _ q, fun v q => by rw [dV_02]; exact h2.2.1 v q, fun v q => by rw [dV_03]; exact h2.2.2 v q, fun j j1 j2 j3 i v q => by rw [dV_h j j1 j2 j3]; exact h2.1 _ (by omega) _ _ q, fun o' e i v q => ?_, fun i i0 i1 => by rw [dV_02] at i1; rw [dV_q]; exact h3 i i0 i1⟩
  · have ep : p' = p := by omega
    rw [ep] at q
    have := h p (Or.inr rfl) _ _ q
    rw [dV_01] at s1 this
    rw [this, dV_m s0 (by omega)]
  · have eo : o' = o := by omega
    rw [eo] at q
    rw [dV_v]
    exact h2.1 o (Or.inr rfl) _ _ q
