/-! the executor over unknown numbers: steps, runs of steps, loops -/
theorem zrun_u {ops : Instr → zHd} {code : Nat → Option Instr} {n pc : Nat} {ls : zL} {st : List zV} {h : zH} : zrun ops code (n + 1) pc ls st h = (match cond (Nat.blt pc 512) (code pc) none with
      | none => none
      | some i => match ops i pc ls st h with
        | none => none
        | some (.inl q) => zrun ops code n q.1 q.2.1 q.2.2.1 q.2.2.2
        | some (.inr r) => cond (zisret i) (some r) none) := by
  have e : zrun ops code (n + 1) pc ls st h = zfN pc (fun pc => match cond (Nat.blt pc 512) (code pc) none with
      | none => none
      | some i => match ops i pc ls st h with
        | none => none
        | some (.inl q) => zrun ops code n q.1 q.2.1 q.2.2.1 q.2.2.2
        | some (.inr r) => cond (zisret i) (some r) none) := rfl
  rw [e, zfN_eq]
theorem zrun_s {ops : Instr → zHd} {code : Nat → Option Instr} {n pc : Nat} {ls : zL} {st : List zV} {h : zH} {i : Instr} {q : Nat × (zL × (List zV × zH))} (hp : Nat.blt pc 512 = true) (hc : code pc = some i) (ho : ops i pc ls st h = some (.inl q)) : zrun ops code (n + 1) pc ls st h = zrun ops code n q.1 q.2.1 q.2.2.1 q.2.2.2 := by
  rw [zrun_u, hp, cond_true, hc]
  dsimp only
  rw [ho]
theorem zrun_r {ops : Instr → zHd} {code : Nat → Option Instr} {n pc : Nat} {ls : zL} {st : List zV} {h : zH} {i : Instr} {r : Option zV × zH} (hp : Nat.blt pc 512 = true) (hc : code pc = some i) (hr : zisret i = true) (ho : ops i pc ls st h = some (.inr r)) : zrun ops code (n + 1) pc ls st h = some r := by
  rw [zrun_u, hp, cond_true, hc]
  dsimp only
  rw [ho]
  dsimp only
  rw [hr, cond_true]
noncomputable def zst (ops : Instr → zHd) (code : Nat → Option Instr) (n : Nat) : Nat → zL → List zV → zH → Option (Nat × (zL × (List zV × zH))) :=
  Nat.rec (motive := fun _ => Nat → zL → List zV → zH → Option (Nat × (zL × (List zV × zH)))) (fun pc ls st h => some (pc, ls, st, h))
    (fun _ ih pc ls st h => zfN pc (fun pc => match cond (Nat.blt pc 512) (code pc) none with
      | none => none
      | some i => match ops i pc ls st h with
        | some (.inl q) => ih q.1 q.2.1 q.2.2.1 q.2.2.2
        | _ => none)) n
theorem zst_u {ops : Instr → zHd} {code : Nat → Option Instr} {n pc : Nat} {ls : zL} {st : List zV} {h : zH} : zst ops code (n + 1) pc ls st h = (match cond (Nat.blt pc 512) (code pc) none with
      | none => none
      | some i => match ops i pc ls st h with
        | some (.inl q) => zst ops code n q.1 q.2.1 q.2.2.1 q.2.2.2
        | _ => none) := by
  have e : zst ops code (n + 1) pc ls st h = zfN pc (fun pc => match cond (Nat.blt pc 512) (code pc) none with
      | none => none
      | some i => match ops i pc ls st h with
        | some (.inl q) => zst ops code n q.1 q.2.1 q.2.2.1 q.2.2.2
        | _ => none) := rfl
  rw [e, zfN_eq]
theorem zst_s {ops : Instr → zHd} {code : Nat → Option Instr} {n pc : Nat} {ls : zL} {st : List zV} {h : zH} {i : Instr} {q : Nat × (zL × (List zV × zH))} (hp : Nat.blt pc 512 = true) (hc : code pc = some i) (ho : ops i pc ls st h = some (.inl q)) : zst ops code (n + 1) pc ls st h = zst ops code n q.1 q.2.1 q.2.2.1 q.2.2.2 := by
  rw [zst_u, hp, cond_true, hc]
  dsimp only
  rw [ho]
theorem zst_run {ops : Instr → zHd} {code : Nat → Option Instr} (n : Nat) {q : Nat × (zL × (List zV × zH))} : ∀ (k : Nat) {pc : Nat} {ls : zL} {st : List zV} {h : zH}, zst ops code k pc ls st h = some q → zrun ops code (n + k) pc ls st h = zrun ops code n q.1 q.2.1 q.2.2.1 q.2.2.2 := by
  intro k
  induction k with
  | zero =>
    intro pc ls st h e
    have e' : some (pc, ls, st, h) = some q := e
    cases e'
    rfl
  | succ k ih =>
    intro pc ls st h e
    have e' := e
    rw [zst_u] at e'
    split at e'
    next => cases e'
    next i hi =>
      split at e'
      next q' hq =>
        rw [show n + (k + 1) = n + k + 1 from rfl, zrun_u, hi]
        dsimp only
        rw [hq]
        exact ih e'
      next => cases e'
theorem z32 {a : Int} (h0 : -2147483648 ≤ a) (h1 : a ≤ 2147483647) : (Int32.ofInt a).toInt = a := Int32.toInt_ofInt_of_le (by omega) (by omega)
theorem z32_add (a b : Int) : (Int32.ofInt a + Int32.ofInt b) = Int32.ofInt (a + b) := by
  rw [Int32.ofInt_add]
theorem z32_mul (a b : Int) : (Int32.ofInt a * Int32.ofInt b) = Int32.ofInt (a * b) := by
  rw [Int32.ofInt_mul]
theorem zrI_c {bd : zB} {a : Int} (h0 : -2147483648 ≤ a) (h1 : a ≤ 2147483647) : zrI bd (0, a) = some (a, a) := by
  unfold zrI
  simp only [zfI_eq, z32 h0 h1]
theorem zlt_c (a b : Int) : zlt (a, a) (b, b) = some (decide (a < b)) := by
  unfold zlt
  by_cases h : a < b
  · simp [h]
  · simp [h, Int.not_lt.mp h]
theorem zix_c {n : Nat} {i : Int} {j : Nat} (e : i = (j : Int)) (hj : j < n) (hb : j ≤ 2147483647) : zix n i = some j := by
  subst e
  unfold zix
  rw [z32 (by omega) (by omega)]
  show zfN j _ = _
  rw [zfN_eq]
  have : Nat.blt j n = true := Nat.ble_eq_true_of_le hj
  rw [this]
  rfl
theorem hb_add {pc : Nat} {ls : zL} {r : List zV} {h : zH} {a b : Int} (h0 : -2147483648 ≤ a + b) (h1 : a + b ≤ 2147483647) : hd_bin (fun x y => x + y) pc ls ((0, b) :: (0, a) :: r) h = some (.inl (pc + 1, ls, (0, a + b) :: r, h)) := by
  unfold hd_bin
  simp only [zfI_eq, z32_add, z32 h0 h1]
theorem hb_mul {pc : Nat} {ls : zL} {r : List zV} {h : zH} {a b : Int} (h0 : -2147483648 ≤ a * b) (h1 : a * b ≤ 2147483647) : hd_bin (fun x y => x * y) pc ls ((0, b) :: (0, a) :: r) h = some (.inl (pc + 1, ls, (0, a * b) :: r, h)) := by
  unfold hd_bin
  simp only [zfI_eq, z32_mul, z32 h0 h1]
theorem hb_ige {bd : zB} {pc : Nat} {off : Int} {ls : zL} {r : List zV} {h : zH} {a b : Int} (ha0 : -2147483648 ≤ a) (ha1 : a ≤ 2147483647) (hb0 : -2147483648 ≤ b) (hb1 : b ≤ 2147483647) : hd_icmp bd .ge off pc ls ((0, b) :: (0, a) :: r) h = zbr (some (!decide (a < b))) pc off ls r h := by
  unfold hd_icmp
  simp only [zrI_c ha0 ha1, zrI_c hb0 hb1, zcmp, zlt_c, Option.map_some]
theorem hb_ald {tt : Nat → Bool} {t : zV → Bool} {pc : Nat} {ls : zL} {r : List zV} {h : zH} {i : Int} {a j ty n : Nat} {f : Nat → zV} (hz : znth h a = some (.inr (ty, n, f))) (ht : tt ty = true) (hi : zix n i = some j) (hv : t (f j) = true) : hd_ald tt t pc ls ((0, i) :: (4, (a : Int)) :: r) h = some (.inl (pc + 1, ls, f j :: r, h)) := by
  unfold hd_ald
  simp only [Int.toNat_natCast, hz, ht, hi, hv, cond_true]
theorem hb_ast {tt : Nat → Bool} {t : zV → Bool} {pc : Nat} {ls : zL} {r : List zV} {h : zH} {i : Int} {a j ty n : Nat} {f : Nat → zV} {v : zV} (hz : znth h a = some (.inr (ty, n, f))) (ht : tt ty = true) (hi : zix n i = some j) (hv : t v = true) : hd_ast tt t pc ls (v :: (0, i) :: (4, (a : Int)) :: r) h = some (.inl (pc + 1, ls, r, zset h (.inr (ty, n, zupd f j v)) a)) := by
  unfold hd_ast
  simp only [Int.toNat_natCast, hz, ht, hi, hv, cond_true, Bool.and_self]
theorem hb_get {o : Option (Nat × Nat)} {pc : Nat} {ls : zL} {r : List zV} {h : zH} {a ci k : Nat} {fs : List zV} {v : zV} (hz : znth h a = some (.inl (ci, fs))) (ho : o = some (ci, k)) (hv : znth fs k = some v) : hd_get o pc ls ((4, (a : Int)) :: r) h = some (.inl (pc + 3, ls, v :: r, h)) := by
  subst ho
  unfold hd_get
  simp only [Int.toNat_natCast, hz, Nat.beq_refl, cond_true, hv]
theorem znth_set {α : Type} (l : List α) (v : α) (b c : Nat) : znth (zset l v b) c = if c = b then (znth l b).map (fun _ => v) else znth l c := by
  rw [zset_eq, znth_eq, znth_eq, znth_eq, List.getElem?_set]
  by_cases h : c = b
  · subst h
    by_cases h2 : c < l.length
    · simp [h2]
    · simp [h2]
  · have h' : ¬ b = c := fun e => h e.symm
    simp [h, h']
theorem zset_set {α : Type} (l : List α) (v w : α) (b : Nat) : zset (zset l v b) w b = zset l w b := by
  rw [zset_eq, zset_eq, zset_eq, List.set_set]
theorem zset_self {α : Type} (l : List α) (v : α) (b : Nat) (h : znth l b = some v) : zset l v b = l := by
  rw [zset_eq]
  rw [znth_eq] at h
  apply List.ext_getElem?
  intro c
  rw [List.getElem?_set]
  by_cases e : b = c
  · subst e
    obtain ⟨hb, e2⟩ := List.getElem?_eq_some_iff.mp h
    simp [hb, e2]
  · simp [e]
/-- f from place i on, m places, written to base + i on -/
noncomputable def zlp (f : Nat → zV) (base : Nat) (m : Nat) : Nat → (Nat → zV) → (Nat → zV) :=
  Nat.rec (motive := fun _ => Nat → (Nat → zV) → (Nat → zV)) (fun _ g => g) (fun _ ih i g => ih (i + 1) (zupd g (base + i) (f i))) m
