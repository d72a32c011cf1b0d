/-! what the values and cells mean: b the first address, ν the unknown numbers, cy the classes of rows -/
def zg (ν : Nat → Int) (b : Nat) (v : zV) : Value := match v.1 with
  | 0 => .int (Int32.ofInt v.2)
  | 1 => .int (Int32.ofInt (ν v.2.toNat))
  | 2 => .long (Int64.ofInt v.2)
  | 3 => .long (Int64.ofInt (ν v.2.toNat))
  | 4 => .ref (b + v.2.toNat)
  | _ => .null
def zgI (ν : Nat → Int) (v : zV) : Int32 := match v.1 with
  | 0 => Int32.ofInt v.2
  | _ => Int32.ofInt (ν v.2.toNat)
def zgJ (ν : Nat → Int) (v : zV) : Int64 := match v.1 with
  | 2 => Int64.ofInt v.2
  | _ => Int64.ofInt (ν v.2.toNat)
def zgR (b : Nat) (v : zV) : Option Nat := match v.1 with
  | 4 => some (b + v.2.toNat)
  | _ => none
def ztya (ty : Nat) : FieldType := match ty with
  | 0 => .int
  | 1 => .long
  | 2 => .boolean
  | 3 => .object RX5
  | 4 => .object RX2
  | _ => .object RX1
def zty (cy : Nat → ClassId) : List (ClassId × FieldType) := [(cy 0, ztya 0), (cy 1, ztya 1), (cy 2, ztya 2), (cy 3, ztya 3), (cy 4, ztya 4), (cy 5, ztya 5)]
theorem zty_at (cy : Nat → ClassId) {t : Nat} (h : t < 6) : (zty cy)[t]? = some (cy t, ztya t) := by
  match t, h with
  | 0, _ => rfl
  | 1, _ => rfl
  | 2, _ => rfl
  | 3, _ => rfl
  | 4, _ => rfl
  | 5, _ => rfl
def zarr (ν : Nat → Int) (b : Nat) (ty n : Nat) (f : Nat → zV) : vp_A := match ty with
  | 0 => (n, .inl (fun j => zgI ν (f j)))
  | 1 => (n, .inr (.inl (fun j => zgJ ν (f j))))
  | 2 => (n, .inl (fun j => zgI ν (f j)))
  | _ => (n, .inr (.inr (.inr (.inr (fun j => zgR b (f j))))))
def zcon (ν : Nat → Int) (b : Nat) (cy : Nat → ClassId) (c : zC) : va_E := match c with
  | .inl q => .inr (q.1, q.2.map (zg ν b))
  | .inr q => .inl (cy q.1, zarr ν b q.1 q.2.1 q.2.2)
def zws (ν : Nat → Int) (b : Nat) (cy : Nat → ClassId) : Nat → zH → va_W
  | _, [] => []
  | k, c :: h => (k, zcon ν b cy c) :: zws ν b cy (k + 1) h
def zsz (c : zC) : Nat := match c with
  | .inl q => q.2.length
  | .inr q => q.2.1
def zsl (h : zH) : Nat := (h.map zsz).sum
theorem zg_I {ν : Nat → Int} {b : Nat} {v : zV} (h : zisI v = true) : zg ν b v = .int (zgI ν v) := by
  obtain ⟨t, a⟩ := v
  match t with
  | 0 => rfl
  | 1 => rfl
  | _ + 2 => simp [zisI] at h
theorem zg_J {ν : Nat → Int} {b : Nat} {v : zV} (h : zisJ v = true) : zg ν b v = .long (zgJ ν v) := by
  obtain ⟨t, a⟩ := v
  match t with
  | 0 => simp [zisJ] at h
  | 1 => simp [zisJ] at h
  | 2 => rfl
  | 3 => rfl
  | _ + 4 => simp [zisJ] at h
theorem zg_R {ν : Nat → Int} {b : Nat} {v : zV} (h : zisR v = true) : zg ν b v = va_rf (zgR b v) := by
  obtain ⟨t, a⟩ := v
  match t with
  | 0 => simp [zisR] at h
  | 1 => simp [zisR] at h
  | 2 => simp [zisR] at h
  | 3 => simp [zisR] at h
  | 4 => rfl
  | _ + 5 => rfl
theorem zg_cat (ν : Nat → Int) (b : Nat) (v : zV) : (zg ν b v).category = zcat v := by
  obtain ⟨t, a⟩ := v
  match t with
  | 0 => rfl
  | 1 => rfl
  | 2 => rfl
  | 3 => rfl
  | 4 => rfl
  | _ + 5 => rfl
theorem zws_get (ν : Nat → Int) (b : Nat) (cy : Nat → ClassId) : ∀ (h : zH) (k j : Nat), (zws ν b cy k h)[j]? = (h[j]?).map (fun c => (k + j, zcon ν b cy c)) := by
  intro h
  induction h with
  | nil => intro k j; rfl
  | cons c h ih =>
    intro k j
    cases j with
    | zero => rfl
    | succ j =>
      show (zws ν b cy (k + 1) h)[j]? = (h[j]?).map _
      rw [ih (k + 1) j]
      congr 1
      funext c
      rw [Nat.add_assoc, Nat.add_comm 1 j]
theorem zws_at {ν : Nat → Int} {b : Nat} {cy : Nat → ClassId} {h : zH} {k j : Nat} {c : zC} (hj : h[j]? = some c) : (zws ν b cy k h)[j]? = some (k + j, zcon ν b cy c) := by rw [zws_get, hj]; rfl
theorem zws_set (ν : Nat → Int) (b : Nat) (cy : Nat → ClassId) (c : zC) : ∀ (h : zH) (k j : Nat), (zws ν b cy k h).set j (k + j, zcon ν b cy c) = zws ν b cy k (h.set j c) := by
  intro h
  induction h with
  | nil => intro k j; rfl
  | cons d h ih =>
    intro k j
    cases j with
    | zero => rfl
    | succ j =>
      show (k, zcon ν b cy d) :: (zws ν b cy (k + 1) h).set j (k + (j + 1), zcon ν b cy c) = (k, zcon ν b cy d) :: zws ν b cy (k + 1) (h.set j c)
      rw [← ih (k + 1) j, show k + (j + 1) = k + 1 + j by omega]
theorem zws_app (ν : Nat → Int) (b : Nat) (cy : Nat → ClassId) (c : zC) : ∀ (h : zH) (k : Nat), zws ν b cy k (h ++ [c]) = zws ν b cy k h ++ [(k + h.length, zcon ν b cy c)] := by
  intro h
  induction h with
  | nil => intro k; rfl
  | cons d h ih =>
    intro k
    show (k, zcon ν b cy d) :: zws ν b cy (k + 1) (h ++ [c]) = (k, zcon ν b cy d) :: (zws ν b cy (k + 1) h ++ _)
    rw [ih (k + 1), show k + 1 + h.length = k + (d :: h).length by simp; omega]
theorem zws_D (ν : Nat → Int) (b : Nat) (cy : Nat → ClassId) (h : zH) : va_D (fun q : Nat => b ≤ q) (zws ν b cy b h) := by
  refine ⟨fun i j p q hi hj hpq => ?_, fun k q hk => ?_⟩
  · rw [zws_get] at hi hj
    obtain ⟨c1, h1, rfl⟩ := Option.map_eq_some_iff.mp hi
    obtain ⟨c2, h2, rfl⟩ := Option.map_eq_some_iff.mp hj
    dsimp only at hpq
    omega
  · rw [zws_get] at hk
    obtain ⟨c1, h1, rfl⟩ := Option.map_eq_some_iff.mp hk
    dsimp only
    omega
theorem zget_mem : ∀ (ls : zL) {i : Nat} {v : zV}, zget ls i = some v → (i, v) ∈ ls := by
  intro ls
  induction ls with
  | nil => intro i v h; cases h
  | cons q ls ih =>
    intro i v h
    have h' : cond (Nat.beq q.1 i) (some q.2) (zget ls i) = some v := h
    cases hq : Nat.beq q.1 i with
    | true =>
      rw [hq] at h'
      have : q.2 = v := Option.some.inj h'
      have e : q.1 = i := Nat.eq_of_beq_eq_true hq
      subst this; subst e
      exact List.mem_cons_self
    | false =>
      rw [hq] at h'
      exact List.mem_cons_of_mem _ (ih h')
abbrev zlm (ν : Nat → Int) (b : Nat) (ls : zL) : List (Nat × Value) := ls.map (fun q => (q.1, zg ν b q.2))
theorem zget_has {ν : Nat → Int} {b nL : Nat} {ls : zL} {Ls : Array Slot} (h : lv_has Ls nL (zlm ν b ls)) {i : Nat} {v : zV} (hv : zget ls i = some v) : Ls[i]? = some (.val (zg ν b v)) := h.2.2 (i, zg ν b v) (List.mem_map.mpr ⟨(i, v), zget_mem ls hv, rfl⟩)
theorem zbeq (a b : Nat) : (a == b) = Nat.beq a b := by
  rw [Bool.eq_iff_iff, beq_iff_eq]
  exact ⟨fun h => by subst h; exact Nat.beq_refl a, fun h => Nat.eq_of_beq_eq_true h⟩
theorem zdrop_map (ν : Nat → Int) (b i : Nat) (ls : zL) : zlm ν b (ls.filter (zdrop i)) = (zlm ν b ls).filter (fun q => !(q.1 == i) && !(q.1 + 1 == i && q.2.category == 2)) := by
  unfold zlm
  rw [List.filter_map]
  congr 1
  apply List.filter_congr
  intro q _
  simp only [Function.comp, zdrop, zg_cat, zbeq]
theorem zdrop2_map (ν : Nat → Int) (b i : Nat) (ls : zL) : zlm ν b (ls.filter (zdrop2 i)) = (zlm ν b ls).filter (fun q => !(q.1 == i) && (!(q.1 == i + 1) && !(q.1 + 1 == i && q.2.category == 2))) := by
  unfold zlm
  rw [List.filter_map]
  congr 1
  apply List.filter_congr
  intro q _
  simp only [Function.comp, zdrop2, zg_cat, zbeq]
theorem zsl_set {h : zH} {j : Nat} {c d : zC} (hj : h[j]? = some c) (hz : zsz d = zsz c) : zsl (h.set j d) = zsl h := by
  induction h generalizing j with
  | nil => cases hj
  | cons x h ih =>
    cases j with
    | zero =>
      have : x = c := Option.some.inj hj
      subst this
      simp [zsl, hz]
    | succ j =>
      have := ih (j := j) hj
      simp only [zsl, List.set_cons_succ, List.map_cons, List.sum_cons] at this ⊢
      omega
theorem zsl_app (h : zH) (c : zC) : zsl (h ++ [c]) = zsl h + zsz c := by simp [zsl]
theorem zI64 (x : Int32) : Int64.ofInt x.toInt = x.toInt64 := by
  apply Int64.toInt_inj.mp
  rw [Int32.toInt_toInt64, Int64.toInt_ofInt_of_le]
  · have := Int32.le_toInt x; omega
  · have := Int32.toInt_lt x; omega
theorem zupd_I (ν : Nat → Int) (f : Nat → zV) (j : Nat) (v : zV) : (fun x => zgI ν (zupd f j v x)) = upd (fun x => zgI ν (f x)) j (zgI ν v) := by
  funext x
  simp only [zupd, upd]
  by_cases h : x = j
  · subst h; simp
  · have : Nat.beq x j = false := by rw [← zbeq]; simpa using h
    simp [this, h]
theorem zupd_J (ν : Nat → Int) (f : Nat → zV) (j : Nat) (v : zV) : (fun x => zgJ ν (zupd f j v x)) = vp_updL (fun x => zgJ ν (f x)) j (zgJ ν v) := by
  funext x
  simp only [zupd, vp_updL]
  by_cases h : x = j
  · subst h; simp
  · have : Nat.beq x j = false := by rw [← zbeq]; simpa using h
    simp [this, h]
theorem zupd_R (b : Nat) (f : Nat → zV) (j : Nat) (v : zV) : (fun x => zgR b (zupd f j v x)) = va_up (fun x => zgR b (f x)) j (zgR b v) := by
  funext x
  simp only [zupd, va_up]
  by_cases h : x = j
  · subst h; simp
  · have : Nat.beq x j = false := by rw [← zbeq]; simpa using h
    simp [this, h]
theorem zix_spec {n : Nat} {i : Int} {j : Nat} (h : zix n i = some j) : vp_in (Int32.ofInt i) n ∧ (Int32.ofInt i).toNatClampNeg = j ∧ j < n := by
  unfold zix at h
  split at h
  next k hk =>
    rw [zfN_eq] at h
    cases hb : Nat.blt k n with
    | false => rw [hb] at h; cases h
    | true =>
      rw [hb] at h
      have e : k = j := Option.some.inj h
      subst e
      have hlt : k < n := by simpa [Nat.blt_eq] using hb
      have h1 : (Int32.ofInt i).toNatClampNeg = k := by
        show (Int32.ofInt i).toInt.toNat = k
        rw [hk]; rfl
      refine ⟨?_, h1, hlt⟩
      rw [vp_in_iff, hk]
      constructor
      · exact Int.natCast_nonneg k
      · exact Int.ofNat_lt.mpr hlt
  next => cases h
theorem zrI_spec {bd : zB} {ν : Nat → Int} (hν : ∀ i, (bd i).1 ≤ ν i ∧ ν i ≤ (bd i).2) {v : zV} {q : Int × Int} {b : Nat} (h : zrI bd v = some q) : zg ν b v = .int (zgI ν v) ∧ q.1 ≤ (zgI ν v).toInt ∧ (zgI ν v).toInt ≤ q.2 := by
  obtain ⟨t, a⟩ := v
  match t with
  | 0 =>
    simp only [zrI, zfI_eq] at h
    cases h
    exact ⟨rfl, Int.le_refl _, Int.le_refl _⟩
  | 1 =>
    simp only [zrI] at h
    cases hc : (decide (-2147483648 ≤ (bd a.toNat).1) && decide ((bd a.toNat).2 ≤ 2147483647)) with
    | false => rw [hc] at h; cases h
    | true =>
      rw [hc] at h
      cases h
      simp only [Bool.and_eq_true, decide_eq_true_eq] at hc
      have h2 := hν a.toNat
      have e : (Int32.ofInt (ν a.toNat)).toInt = ν a.toNat := Int32.toInt_ofInt_of_le (by omega) (by omega)
      refine ⟨rfl, ?_, ?_⟩
      · show _ ≤ (Int32.ofInt (ν a.toNat)).toInt
        rw [e]; exact h2.1
      · show (Int32.ofInt (ν a.toNat)).toInt ≤ _
        rw [e]; exact h2.2
  | _ + 2 => cases h
theorem zrJ_spec {bd : zB} {ν : Nat → Int} (hν : ∀ i, (bd i).1 ≤ ν i ∧ ν i ≤ (bd i).2) {v : zV} {q : Int × Int} {b : Nat} (h : zrJ bd v = some q) : zg ν b v = .long (zgJ ν v) ∧ q.1 ≤ (zgJ ν v).toInt ∧ (zgJ ν v).toInt ≤ q.2 := by
  obtain ⟨t, a⟩ := v
  match t with
  | 0 => cases h
  | 1 => cases h
  | 2 =>
    simp only [zrJ, zfI_eq] at h
    cases h
    exact ⟨rfl, Int.le_refl _, Int.le_refl _⟩
  | 3 =>
    simp only [zrJ] at h
    cases hc : (decide (-9223372036854775808 ≤ (bd a.toNat).1) && decide ((bd a.toNat).2 ≤ 9223372036854775807)) with
    | false => rw [hc] at h; cases h
    | true =>
      rw [hc] at h
      cases h
      simp only [Bool.and_eq_true, decide_eq_true_eq] at hc
      have h2 := hν a.toNat
      have e : (Int64.ofInt (ν a.toNat)).toInt = ν a.toNat := Int64.toInt_ofInt_of_le (by omega) (by omega)
      refine ⟨rfl, ?_, ?_⟩
      · show _ ≤ (Int64.ofInt (ν a.toNat)).toInt
        rw [e]; exact h2.1
      · show (Int64.ofInt (ν a.toNat)).toInt ≤ _
        rw [e]; exact h2.2
  | _ + 4 => cases h
theorem zlt_spec {p q : Int × Int} {r : Bool} {x y : Int} (h : zlt p q = some r) (hx : p.1 ≤ x ∧ x ≤ p.2) (hy : q.1 ≤ y ∧ y ≤ q.2) : (x < y) = (r = true) := by
  unfold zlt at h
  cases h1 : decide (p.2 < q.1) with
  | true =>
    rw [h1] at h
    cases h
    simp only [decide_eq_true_eq] at h1
    simp only [eq_iff_iff, iff_true]
    omega
  | false =>
    rw [h1] at h
    cases h2 : decide (q.2 ≤ p.1) with
    | false => rw [h2] at h; cases h
    | true =>
      rw [h2] at h
      cases h
      simp only [decide_eq_true_eq] at h2
      simp only [eq_iff_iff, Bool.false_eq_true, iff_false]
      omega
theorem zeq_spec {p q : Int × Int} {r : Bool} {x y : Int} (h : zeq p q = some r) (hx : p.1 ≤ x ∧ x ≤ p.2) (hy : q.1 ≤ y ∧ y ≤ q.2) : (x = y) = (r = true) := by
  unfold zeq at h
  cases h1 : decide (p.2 < q.1) with
  | true =>
    rw [h1] at h
    cases h
    simp only [decide_eq_true_eq] at h1
    simp only [eq_iff_iff, Bool.false_eq_true, iff_false]
    omega
  | false =>
    rw [h1] at h
    cases h2 : decide (q.2 < p.1) with
    | true =>
      rw [h2] at h
      cases h
      simp only [decide_eq_true_eq] at h2
      simp only [eq_iff_iff, Bool.false_eq_true, iff_false]
      omega
    | false =>
      rw [h2] at h
      cases h3 : (decide (p.1 = p.2) && decide (q.1 = q.2)) with
      | false => rw [h3] at h; cases h
      | true =>
        rw [h3] at h
        cases h
        simp only [Bool.and_eq_true, decide_eq_true_eq] at h3
        simp only [decide_eq_false_iff_not] at h1 h2
        simp only [eq_iff_iff, iff_true]
        omega
