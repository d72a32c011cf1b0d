section ZS
variable {p : Program} {l : Launch} {e : Env} {R : Room} {s : State} {m : MethodId} {args : Array Value} {below : List Frame} {meth : Method} {c : Code} {Q : State → Prop}
variable {D : va_G} {cy : Nat → ClassId} {ν : Nat → Int} {bd : zB} {b nL n0 s0 own : Nat} {ini : Bool} {ret : Option FieldType} {cc : ByteArray}
/-- the machine at pc, its locals, stack and heap as these say, comes to Q -/
def zW (p : Program) (l : Launch) (e : Env) (R : Room) (s : State) (m : MethodId) (args : Array Value) (below : List Frame) (meth : Method) (c : Code) (Q : State → Prop) (D : va_G) (cy : Nat → ClassId) (ν : Nat → Int) (b nL n0 s0 : Nat) (pc : Nat) (ls : zL) (st : List zV) (h : zH) : Prop :=
  ∀ (H : Heap) (Ls : Array Slot) (locs : List Loc), H.size = b + h.length → va_P D vwCl (zws ν b cy b h) H → va_S (fun q : Nat => b ≤ q) s.heap H locs → lv_has Ls nL (zlm ν b ls) → W p l e R s m args below meth c H locs (h.length - n0) (zsl h - s0) Q (F0 m pc Ls (st.map (zg ν b)))
/-- what stands in every step of a body -/
def zCx (p : Program) (s : State) (m : MethodId) (args : Array Value) (meth : Method) (c : Code) (D : va_G) (cy : Nat → ClassId) (ν : Nat → Int) (bd : zB) (b nL own : Nat) (ini : Bool) (ret : Option FieldType) (cc : ByteArray) : Prop :=
  p.tables.exec = Jvm.exec ∧ c.code = cc ∧ c.maxLocals = nL ∧ s.vm.findClass (zR own) = some m.cls ∧ va_K D vwCl (zty cy) s ∧ (∀ w ∈ lw_tbl, w.before args s = true) ∧ meth.locks = false ∧ (ini = true → meth.name = "<init>") ∧ meth.sig.returnType = ret ∧ (∀ i, (bd i).1 ≤ ν i ∧ ν i ≤ (bd i).2) ∧ b ≤ s.heap.size
def zOK (p : Program) (l : Launch) (e : Env) (R : Room) (s : State) (m : MethodId) (args : Array Value) (below : List Frame) (meth : Method) (c : Code) (Q : State → Prop) (D : va_G) (cy : Nat → ClassId) (ν : Nat → Int) (b nL n0 s0 : Nat) (cc : ByteArray) (i : Instr) (hd : zHd) : Prop :=
  ∀ (pc : Nat) (ls : zL) (st : List zV) (h : zH) (pc' : Nat) (ls' : zL) (st' : List zV) (h' : zH), hd pc ls st h = some (.inl (pc', ls', st', h')) → (∃ n, decode cc pc = .ok (i, n) ∧ (n = zlen i ∨ zlen i = 0)) →
    (h.length ≤ h'.length ∧ zsl h ≤ zsl h') ∧ (n0 ≤ h.length → s0 ≤ zsl h → h'.length - n0 ≤ R.cells → zsl h' - s0 ≤ R.slots → zW p l e R s m args below meth c Q D cy ν b nL n0 s0 pc' ls' st' h' → zW p l e R s m args below meth c Q D cy ν b nL n0 s0 pc ls st h)
theorem zdec {pc : Nat} {i : Instr} {k : Nat} (h : ∃ n, decode cc pc = .ok (i, n) ∧ (n = zlen i ∨ zlen i = 0)) (hz : zlen i = k) (h0 : 0 < k) : decode cc pc = .ok (i, k) := by
  obtain ⟨n, hn, h2⟩ := h
  have : n = k := by omega
  subst this
  exact hn
theorem zOK_none {i : Instr} : zOK p l e R s m args below meth c Q D cy ν b nL n0 s0 cc i (fun _ _ _ _ => none) := by
  intro pc ls st h pc' ls' st' h' hd _
  cases hd
theorem ok_const {i : Instr} {n : Nat} {v : zV} (hz : zlen i = n) (h0 : 0 < n) (row : ∀ {H : Heap} {locs : List Loc} {cells slots pc : Nat} {Ls : Array Slot} {rest : List Value}, decode cc pc = .ok (i, n) → W p l e R s m args below meth c H locs cells slots Q (F0 m (pc + n) Ls (zg ν b v :: rest)) → W p l e R s m args below meth c H locs cells slots Q (F0 m pc Ls rest)) : zOK p l e R s m args below meth c Q D cy ν b nL n0 s0 cc i (hd_const n v) := by
  intro pc ls st h pc' ls' st' h' hd hdec
  unfold hd_const at hd
  cases hd
  exact ⟨⟨Nat.le_refl _, Nat.le_refl _⟩, fun _ _ _ _ k H Ls locs hH hP hS hL => row (zdec hdec hz h0) (k H Ls locs hH hP hS hL)⟩
theorem ok_load {i : Instr} {t : zV → Bool} {n x : Nat} (hz : zlen i = n) (h0 : 0 < n) (row : ∀ {H : Heap} {locs : List Loc} {cells slots pc : Nat} {Ls : Array Slot} {rest : List Value} {v : zV}, t v = true → Ls[x]? = some (.val (zg ν b v)) → decode cc pc = .ok (i, n) → W p l e R s m args below meth c H locs cells slots Q (F0 m (pc + n) Ls (zg ν b v :: rest)) → W p l e R s m args below meth c H locs cells slots Q (F0 m pc Ls rest)) : zOK p l e R s m args below meth c Q D cy ν b nL n0 s0 cc i (hd_load t n x) := by
  intro pc ls st h pc' ls' st' h' hd hdec
  unfold hd_load at hd
  cases hv : zget ls x with
  | none => rw [hv] at hd; cases hd
  | some v =>
    rw [hv] at hd
    dsimp only at hd
    cases ht : t v with
    | false => rw [ht] at hd; cases hd
    | true =>
      rw [ht] at hd
      cases hd
      exact ⟨⟨Nat.le_refl _, Nat.le_refl _⟩, fun _ _ _ _ k H Ls locs hH hP hS hL => row ht (zget_has hL hv) (zdec hdec hz h0) (k H Ls locs hH hP hS hL)⟩
theorem ok_store {i : Instr} {t : zV → Bool} {n x : Nat} (hz : zlen i = n) (h0 : 0 < n) (row : ∀ {H : Heap} {locs : List Loc} {cells slots pc : Nat} {Ls : Array Slot} {rest : List Value} {v : zV} {lv : List (Nat × Value)}, t v = true → lv_has Ls nL lv → x < nL → decode cc pc = .ok (i, n) → (∀ Ls : Array Slot, lv_has Ls nL ((x, zg ν b v) :: lv.filter (fun q => !(q.1 == x) && !(q.1 + 1 == x && q.2.category == 2))) → W p l e R s m args below meth c H locs cells slots Q (F0 m (pc + n) Ls rest)) → W p l e R s m args below meth c H locs cells slots Q (F0 m pc Ls (zg ν b v :: rest))) : zOK p l e R s m args below meth c Q D cy ν b nL n0 s0 cc i (hd_store t nL n x) := by
  intro pc ls st h pc' ls' st' h' hd hdec
  unfold hd_store at hd
  split at hd
  next v r =>
    cases ht : (t v && Nat.blt x nL) with
    | false => rw [ht] at hd; cases hd
    | true =>
      rw [ht] at hd
      cases hd
      simp only [Bool.and_eq_true] at ht
      refine ⟨⟨Nat.le_refl _, Nat.le_refl _⟩, fun _ _ _ _ k H Ls locs hH hP hS hL => row ht.1 hL (by simpa [Nat.blt_eq] using ht.2) (zdec hdec hz h0) (fun Ls' hL' => k H Ls' locs hH hP hS ?_)⟩
      show lv_has Ls' nL ((x, zg ν b v) :: zlm ν b (ls.filter (zdrop x)))
      rw [zdrop_map]
      exact hL'
  next => cases hd
theorem ok_lstore {i : Instr} {n x : Nat} (hz : zlen i = n) (h0 : 0 < n) (row : ∀ {H : Heap} {locs : List Loc} {cells slots pc : Nat} {Ls : Array Slot} {rest : List Value} {y : Int64} {lv : List (Nat × Value)}, lv_has Ls nL lv → x + 1 < nL → decode cc pc = .ok (i, n) → (∀ Ls : Array Slot, lv_has Ls nL ((x, .long y) :: lv.filter (fun q => !(q.1 == x) && (!(q.1 == x + 1) && !(q.1 + 1 == x && q.2.category == 2)))) → W p l e R s m args below meth c H locs cells slots Q (F0 m (pc + n) Ls rest)) → W p l e R s m args below meth c H locs cells slots Q (F0 m pc Ls (.long y :: rest))) : zOK p l e R s m args below meth c Q D cy ν b nL n0 s0 cc i (hd_lstore nL n x) := by
  intro pc ls st h pc' ls' st' h' hd hdec
  unfold hd_lstore at hd
  split at hd
  next v r =>
    cases ht : (zisJ v && Nat.blt (x + 1) nL) with
    | false => rw [ht] at hd; cases hd
    | true =>
      rw [ht] at hd
      cases hd
      simp only [Bool.and_eq_true] at ht
      refine ⟨⟨Nat.le_refl _, Nat.le_refl _⟩, fun _ _ _ _ k H Ls locs hH hP hS hL => ?_⟩
      rw [List.map_cons, zg_J ht.1]
      refine row hL (by simpa [Nat.blt_eq] using ht.2) (zdec hdec hz h0) (fun Ls' hL' => k H Ls' locs hH hP hS ?_)
      show lv_has Ls' nL ((x, zg ν b v) :: zlm ν b (ls.filter (zdrop2 x)))
      rw [zdrop2_map, zg_J ht.1]
      exact hL'
  next => cases hd
theorem zg0 (x : Int32) : zg ν b (0, x.toInt) = .int x := by
  show Value.int (Int32.ofInt x.toInt) = _
  rw [Int32.ofInt_toInt]
theorem zg2 (x : Int64) : zg ν b (2, x.toInt) = .long x := by
  show Value.long (Int64.ofInt x.toInt) = _
  rw [Int64.ofInt_toInt]
theorem ok_iinc (C : zCx p s m args meth c D cy ν bd b nL own ini ret cc) {x : Nat} {k : Int} : zOK p l e R s m args below meth c Q D cy ν b nL n0 s0 cc (.iinc x k) (hd_iinc nL x k) := by
  obtain ⟨hx, hb, -⟩ := C
  intro pc ls st h pc' ls' st' h' hd hdec
  unfold hd_iinc at hd
  split at hd
  next a hv =>
    cases ht : Nat.blt x nL with
    | false => rw [ht] at hd; cases hd
    | true =>
      rw [ht] at hd
      dsimp only [cond] at hd
      rw [zfI_eq] at hd
      cases hd
      refine ⟨⟨Nat.le_refl _, Nat.le_refl _⟩, fun _ _ _ _ kk H Ls locs hH hP hS hL => ?_⟩
      have hmem : (x, zg ν b (0, a)) ∈ zlm ν b ls := List.mem_map.mpr ⟨(x, (0, a)), zget_mem ls hv, rfl⟩
      obtain ⟨j, hj⟩ := List.getElem?_of_mem hmem
      refine lv_iinc (v := Int32.ofInt a + Int32.ofInt k) (k := j) hx hb (zdec hdec rfl (by decide)) hL hj rfl (by simpa [Nat.blt_eq] using ht) rfl (fun Ls' hL' => kk H Ls' locs hH hP hS ?_)
      show lv_has Ls' nL ((x, zg ν b (0, (Int32.ofInt a + Int32.ofInt k).toInt)) :: zlm ν b (ls.filter (zdrop x)))
      rw [zdrop_map, zg0]
      exact hL'
  next => cases hd
theorem ok_bin {i : Instr} {f : Int32 → Int32 → Int32} (hz : zlen i = 1) (row : ∀ {H : Heap} {locs : List Loc} {cells slots pc : Nat} {Ls : Array Slot} {rest : List Value} {x y : Int32}, decode cc pc = .ok (i, 1) → W p l e R s m args below meth c H locs cells slots Q (F0 m (pc + 1) Ls (.int (f x y) :: rest)) → W p l e R s m args below meth c H locs cells slots Q (F0 m pc Ls (.int y :: .int x :: rest))) : zOK p l e R s m args below meth c Q D cy ν b nL n0 s0 cc i (hd_bin f) := by
  intro pc ls st h pc' ls' st' h' hd hdec
  unfold hd_bin at hd
  split at hd
  next y x r =>
    rw [zfI_eq] at hd
    cases hd
    refine ⟨⟨Nat.le_refl _, Nat.le_refl _⟩, fun _ _ _ _ k H Ls locs hH hP hS hL => row (zdec hdec hz (by decide)) ?_⟩
    have k1 := k H Ls locs hH hP hS hL
    rw [List.map_cons, zg0] at k1
    exact k1
  next => cases hd
theorem ok_div {i : Instr} {f : Int32 → Int32 → Int32} (hz : zlen i = 1) (row : ∀ {H : Heap} {locs : List Loc} {cells slots pc : Nat} {Ls : Array Slot} {rest : List Value} {x y : Int32}, decode cc pc = .ok (i, 1) → ¬ y = 0 → W p l e R s m args below meth c H locs cells slots Q (F0 m (pc + 1) Ls (.int (f x y) :: rest)) → W p l e R s m args below meth c H locs cells slots Q (F0 m pc Ls (.int y :: .int x :: rest))) : zOK p l e R s m args below meth c Q D cy ν b nL n0 s0 cc i (hd_div f) := by
  intro pc ls st h pc' ls' st' h' hd hdec
  unfold hd_div at hd
  split at hd
  next y x r =>
    cases hy : decide (Int32.ofInt y = 0) with
    | true => rw [hy] at hd; cases hd
    | false =>
      rw [hy] at hd
      dsimp only [cond] at hd
      rw [zfI_eq] at hd
      cases hd
      refine ⟨⟨Nat.le_refl _, Nat.le_refl _⟩, fun _ _ _ _ k H Ls locs hH hP hS hL => row (zdec hdec hz (by decide)) (by simpa using hy) ?_⟩
      have k1 := k H Ls locs hH hP hS hL
      rw [List.map_cons, zg0] at k1
      exact k1
  next => cases hd
theorem ok_un {i : Instr} {f : Int32 → Int32} (hz : zlen i = 1) (row : ∀ {H : Heap} {locs : List Loc} {cells slots pc : Nat} {Ls : Array Slot} {rest : List Value} {x : Int32}, decode cc pc = .ok (i, 1) → W p l e R s m args below meth c H locs cells slots Q (F0 m (pc + 1) Ls (.int (f x) :: rest)) → W p l e R s m args below meth c H locs cells slots Q (F0 m pc Ls (.int x :: rest))) : zOK p l e R s m args below meth c Q D cy ν b nL n0 s0 cc i (hd_un f) := by
  intro pc ls st h pc' ls' st' h' hd hdec
  unfold hd_un at hd
  split at hd
  next x r =>
    rw [zfI_eq] at hd
    cases hd
    refine ⟨⟨Nat.le_refl _, Nat.le_refl _⟩, fun _ _ _ _ k H Ls locs hH hP hS hL => row (zdec hdec hz (by decide)) ?_⟩
    have k1 := k H Ls locs hH hP hS hL
    rw [List.map_cons, zg0] at k1
    exact k1
  next => cases hd
theorem ok_lbin {i : Instr} {f : Int64 → Int64 → Int64} (hz : zlen i = 1) (row : ∀ {H : Heap} {locs : List Loc} {cells slots pc : Nat} {Ls : Array Slot} {rest : List Value} {x y : Int64}, decode cc pc = .ok (i, 1) → W p l e R s m args below meth c H locs cells slots Q (F0 m (pc + 1) Ls (.long (f x y) :: rest)) → W p l e R s m args below meth c H locs cells slots Q (F0 m pc Ls (.long y :: .long x :: rest))) : zOK p l e R s m args below meth c Q D cy ν b nL n0 s0 cc i (hd_lbin f) := by
  intro pc ls st h pc' ls' st' h' hd hdec
  unfold hd_lbin at hd
  split at hd
  next y x r =>
    rw [zfI_eq] at hd
    cases hd
    refine ⟨⟨Nat.le_refl _, Nat.le_refl _⟩, fun _ _ _ _ k H Ls locs hH hP hS hL => row (zdec hdec hz (by decide)) ?_⟩
    have k1 := k H Ls locs hH hP hS hL
    rw [List.map_cons, zg2] at k1
    exact k1
  next => cases hd
theorem ok_ldiv {i : Instr} {f : Int64 → Int64 → Int64} (hz : zlen i = 1) (row : ∀ {H : Heap} {locs : List Loc} {cells slots pc : Nat} {Ls : Array Slot} {rest : List Value} {x y : Int64}, decode cc pc = .ok (i, 1) → ¬ y = 0 → W p l e R s m args below meth c H locs cells slots Q (F0 m (pc + 1) Ls (.long (f x y) :: rest)) → W p l e R s m args below meth c H locs cells slots Q (F0 m pc Ls (.long y :: .long x :: rest))) : zOK p l e R s m args below meth c Q D cy ν b nL n0 s0 cc i (hd_ldiv f) := by
  intro pc ls st h pc' ls' st' h' hd hdec
  unfold hd_ldiv at hd
  split at hd
  next y x r =>
    cases hy : decide (Int64.ofInt y = 0) with
    | true => rw [hy] at hd; cases hd
    | false =>
      rw [hy] at hd
      dsimp only [cond] at hd
      rw [zfI_eq] at hd
      cases hd
      refine ⟨⟨Nat.le_refl _, Nat.le_refl _⟩, fun _ _ _ _ k H Ls locs hH hP hS hL => row (zdec hdec hz (by decide)) (by simpa using hy) ?_⟩
      have k1 := k H Ls locs hH hP hS hL
      rw [List.map_cons, zg2] at k1
      exact k1
  next => cases hd
theorem ok_lun {i : Instr} {f : Int64 → Int64} (hz : zlen i = 1) (row : ∀ {H : Heap} {locs : List Loc} {cells slots pc : Nat} {Ls : Array Slot} {rest : List Value} {x : Int64}, decode cc pc = .ok (i, 1) → W p l e R s m args below meth c H locs cells slots Q (F0 m (pc + 1) Ls (.long (f x) :: rest)) → W p l e R s m args below meth c H locs cells slots Q (F0 m pc Ls (.long x :: rest))) : zOK p l e R s m args below meth c Q D cy ν b nL n0 s0 cc i (hd_lun f) := by
  intro pc ls st h pc' ls' st' h' hd hdec
  unfold hd_lun at hd
  split at hd
  next x r =>
    rw [zfI_eq] at hd
    cases hd
    refine ⟨⟨Nat.le_refl _, Nat.le_refl _⟩, fun _ _ _ _ k H Ls locs hH hP hS hL => row (zdec hdec hz (by decide)) ?_⟩
    have k1 := k H Ls locs hH hP hS hL
    rw [List.map_cons, zg2] at k1
    exact k1
  next => cases hd
theorem ok_lsh {i : Instr} {f : Int64 → Int32 → Int64} (hz : zlen i = 1) (row : ∀ {H : Heap} {locs : List Loc} {cells slots pc : Nat} {Ls : Array Slot} {rest : List Value} {x : Int64} {y : Int32}, decode cc pc = .ok (i, 1) → W p l e R s m args below meth c H locs cells slots Q (F0 m (pc + 1) Ls (.long (f x y) :: rest)) → W p l e R s m args below meth c H locs cells slots Q (F0 m pc Ls (.int y :: .long x :: rest))) : zOK p l e R s m args below meth c Q D cy ν b nL n0 s0 cc i (hd_lsh f) := by
  intro pc ls st h pc' ls' st' h' hd hdec
  unfold hd_lsh at hd
  split at hd
  next y x r =>
    rw [zfI_eq] at hd
    cases hd
    refine ⟨⟨Nat.le_refl _, Nat.le_refl _⟩, fun _ _ _ _ k H Ls locs hH hP hS hL => row (zdec hdec hz (by decide)) ?_⟩
    have k1 := k H Ls locs hH hP hS hL
    rw [List.map_cons, zg2] at k1
    exact k1
  next => cases hd
theorem ok_i2l (C : zCx p s m args meth c D cy ν bd b nL own ini ret cc) : zOK p l e R s m args below meth c Q D cy ν b nL n0 s0 cc .i2l (hd_i2l bd) := by
  obtain ⟨hx, hb, -, -, -, -, -, -, -, hν, -⟩ := C
  intro pc ls st h pc' ls' st' h' hd hdec
  unfold hd_i2l at hd
  split at hd
  next x r =>
    rw [zfI_eq] at hd
    cases hd
    refine ⟨⟨Nat.le_refl _, Nat.le_refl _⟩, fun _ _ _ _ k H Ls locs hH hP hS hL => lv_i2l hx hb (zdec hdec rfl (by decide)) rfl ?_⟩
    have k1 := k H Ls locs hH hP hS hL
    rw [List.map_cons, zg2] at k1
    exact k1
  next x r =>
    split at hd
    next q hq =>
      cases hd
      refine ⟨⟨Nat.le_refl _, Nat.le_refl _⟩, fun _ _ _ _ k H Ls locs hH hP hS hL => lv_i2l hx hb (zdec hdec rfl (by decide)) ?_ (k H Ls locs hH hP hS hL)⟩
      have h2 := hν x.toNat
      simp only [zrI] at hq
      cases hc : (decide (-2147483648 ≤ (bd x.toNat).1) && decide ((bd x.toNat).2 ≤ 2147483647)) with
      | false => rw [hc] at hq; cases hq
      | true =>
        simp only [Bool.and_eq_true, decide_eq_true_eq] at hc
        show (Int32.ofInt (ν x.toNat)).toInt64 = Int64.ofInt (ν x.toNat)
        rw [← zI64, Int32.toInt_ofInt_of_le (by omega) (by omega)]
    next => cases hd
  next => cases hd
theorem ok_l2i (C : zCx p s m args meth c D cy ν bd b nL own ini ret cc) : zOK p l e R s m args below meth c Q D cy ν b nL n0 s0 cc .l2i hd_l2i := by
  obtain ⟨hx, hb, -⟩ := C
  intro pc ls st h pc' ls' st' h' hd hdec
  unfold hd_l2i at hd
  split at hd
  next x r =>
    rw [zfI_eq] at hd
    cases hd
    refine ⟨⟨Nat.le_refl _, Nat.le_refl _⟩, fun _ _ _ _ k H Ls locs hH hP hS hL => lv_l2i hx hb (zdec hdec rfl (by decide)) rfl ?_⟩
    have k1 := k H Ls locs hH hP hS hL
    rw [List.map_cons, zg0] at k1
    exact k1
  next => cases hd
theorem ok_dup (C : zCx p s m args meth c D cy ν bd b nL own ini ret cc) : zOK p l e R s m args below meth c Q D cy ν b nL n0 s0 cc .dup hd_dup := by
  obtain ⟨hx, hb, -⟩ := C
  intro pc ls st h pc' ls' st' h' hd hdec
  unfold hd_dup at hd
  split at hd
  next v r =>
    cases ht : Nat.beq (zcat v) 1 with
    | false => rw [ht] at hd; cases hd
    | true =>
      rw [ht] at hd
      cases hd
      exact ⟨⟨Nat.le_refl _, Nat.le_refl _⟩, fun _ _ _ _ k H Ls locs hH hP hS hL => lv_dup hx hb (zdec hdec rfl (by decide)) (by rw [zg_cat]; exact Nat.eq_of_beq_eq_true ht) (k H Ls locs hH hP hS hL)⟩
  next => cases hd
theorem ok_dup2 (C : zCx p s m args meth c D cy ν bd b nL own ini ret cc) : zOK p l e R s m args below meth c Q D cy ν b nL n0 s0 cc .dup2 hd_dup2 := by
  obtain ⟨hx, hb, -⟩ := C
  intro pc ls st h pc' ls' st' h' hd hdec
  unfold hd_dup2 at hd
  split at hd
  next v w r =>
    cases ht : (Nat.beq (zcat v) 1 && Nat.beq (zcat w) 1) with
    | false => rw [ht] at hd; cases hd
    | true =>
      rw [ht] at hd
      cases hd
      simp only [Bool.and_eq_true] at ht
      exact ⟨⟨Nat.le_refl _, Nat.le_refl _⟩, fun _ _ _ _ k H Ls locs hH hP hS hL => lv_dup2_11 hx hb (zdec hdec rfl (by decide)) (by rw [zg_cat]; exact Nat.eq_of_beq_eq_true ht.1) (by rw [zg_cat]; exact Nat.eq_of_beq_eq_true ht.2) (k H Ls locs hH hP hS hL)⟩
  next => cases hd
theorem ok_pop (C : zCx p s m args meth c D cy ν bd b nL own ini ret cc) : zOK p l e R s m args below meth c Q D cy ν b nL n0 s0 cc .pop hd_pop := by
  obtain ⟨hx, hb, -⟩ := C
  intro pc ls st h pc' ls' st' h' hd hdec
  unfold hd_pop at hd
  split at hd
  next v r =>
    cases ht : Nat.beq (zcat v) 1 with
    | false => rw [ht] at hd; cases hd
    | true =>
      rw [ht] at hd
      cases hd
      exact ⟨⟨Nat.le_refl _, Nat.le_refl _⟩, fun _ _ _ _ k H Ls locs hH hP hS hL => lv_pop hx hb (zdec hdec rfl (by decide)) (by rw [zg_cat]; exact Nat.eq_of_beq_eq_true ht) (k H Ls locs hH hP hS hL)⟩
  next => cases hd
theorem ok_lcmp (C : zCx p s m args meth c D cy ν bd b nL own ini ret cc) : zOK p l e R s m args below meth c Q D cy ν b nL n0 s0 cc .lcmp (hd_lcmp bd) := by
  obtain ⟨hx, hb, -, -, -, -, -, -, -, hν, -⟩ := C
  intro pc ls st h pc' ls' st' h' hd hdec
  unfold hd_lcmp at hd
  split at hd
  next y x r =>
    split at hd
    next q1 q2 h1 h2 =>
      obtain ⟨e1, a1, a2⟩ := zrJ_spec (b := b) hν h1
      obtain ⟨e2, b1, b2⟩ := zrJ_spec (b := b) hν h2
      have main : ∀ z : Int, lg_cmp (zgJ ν x) (zgJ ν y) = Int32.ofInt z → (pc + 1, ls, (0, z) :: r, h) = (pc', ls', st', h') → (h.length ≤ h'.length ∧ zsl h ≤ zsl h') ∧ (n0 ≤ h.length → s0 ≤ zsl h → h'.length - n0 ≤ R.cells → zsl h' - s0 ≤ R.slots → zW p l e R s m args below meth c Q D cy ν b nL n0 s0 pc' ls' st' h' → zW p l e R s m args below meth c Q D cy ν b nL n0 s0 pc ls (y :: x :: r) h) := by
        intro z hz he
        cases he
        refine ⟨⟨Nat.le_refl _, Nat.le_refl _⟩, fun _ _ _ _ k H Ls locs hH hP hS hL => ?_⟩
        rw [List.map_cons, List.map_cons, e1, e2]
        refine W.lcmp hx hb (zdec hdec rfl (by decide)) ?_
        rw [hz]
        exact k H Ls locs hH hP hS hL
      split at hd
      next hl =>
        have hlt := zlt_spec hl ⟨a1, a2⟩ ⟨b1, b2⟩
        simp only [eq_iff_iff, iff_true] at hlt
        refine main (-1) ?_ (Sum.inl.inj (Option.some.inj hd))
        have g1 : ¬ zgJ ν y < zgJ ν x := by rw [Int64.lt_iff_toInt_lt]; omega
        have g2 : ¬ zgJ ν x = zgJ ν y := fun h => by rw [h] at hlt; omega
        simp [lg_cmp, g1, g2]
        first | done | rfl
      next =>
        split at hd
        next hl =>
          have hlt := zlt_spec hl ⟨b1, b2⟩ ⟨a1, a2⟩
          simp only [eq_iff_iff, iff_true] at hlt
          refine main 1 ?_ (Sum.inl.inj (Option.some.inj hd))
          have g1 : zgJ ν y < zgJ ν x := by rw [Int64.lt_iff_toInt_lt]; omega
          simp [lg_cmp, g1]
          first | done | rfl
        next =>
          split at hd
          next hl =>
            have hlt := zeq_spec hl ⟨a1, a2⟩ ⟨b1, b2⟩
            simp only [eq_iff_iff, iff_true] at hlt
            refine main 0 ?_ (Sum.inl.inj (Option.some.inj hd))
            have g2 : zgJ ν x = zgJ ν y := Int64.toInt_inj.mp hlt
            rw [g2]
            simp [lg_cmp]
            first | done | rfl
          next => cases hd
    next => cases hd
  next => cases hd
/-! roads -/
theorem zjmp_spec {pc : Nat} {off : Int} {ls : zL} {st : List zV} {h : zH} {o : zO} (hj : zjmp pc off ls st h = some o) : ∃ t : Nat, (pc : Int) + off = (t : Int) ∧ o = .inl (t, ls, st, h) := by
  unfold zjmp at hj
  split at hj
  next t ht => exact ⟨t, ht, (Option.some.inj hj).symm⟩
  next => cases hj
theorem ok_goto (C : zCx p s m args meth c D cy ν bd b nL own ini ret cc) {off : Int} : zOK p l e R s m args below meth c Q D cy ν b nL n0 s0 cc (.goto off) (hd_goto off) := by
  obtain ⟨hx, hb, -⟩ := C
  intro pc ls st h pc' ls' st' h' hd hdec
  obtain ⟨t, ht, ho⟩ := zjmp_spec hd
  cases ho
  exact ⟨⟨Nat.le_refl _, Nat.le_refl _⟩, fun _ _ _ _ k H Ls locs hH hP hS hL => lv_goto hx hb (zdec hdec rfl (by decide)) ht (k H Ls locs hH hP hS hL)⟩
theorem zbr_ok {i : Instr} {off : Int} {o : Option Bool} {st0 : List zV} {P : Prop} {pc : Nat} {ls : zL} {r : List zV} {h : zH} {pc' : Nat} {ls' : zL} {st' : List zV} {h' : zH} (hz : zlen i = 3) (hd : zbr o pc off ls r h = some (.inl (pc', ls', st', h'))) (hdec : ∃ n, decode cc pc = .ok (i, n) ∧ (n = zlen i ∨ zlen i = 0))
    (hPx : ∀ x, o = some x → (P = (x = true))) (row : ∀ {H : Heap} {locs : List Loc} {cells slots : Nat} {Ls : Array Slot} {tgt : Nat}, decode cc pc = .ok (i, 3) → (pc : Int) + off = (tgt : Int) → (P → W p l e R s m args below meth c H locs cells slots Q (F0 m tgt Ls (r.map (zg ν b)))) → (¬ P → W p l e R s m args below meth c H locs cells slots Q (F0 m (pc + 3) Ls (r.map (zg ν b)))) → W p l e R s m args below meth c H locs cells slots Q (F0 m pc Ls (st0.map (zg ν b)))) :
    (h.length ≤ h'.length ∧ zsl h ≤ zsl h') ∧ (n0 ≤ h.length → s0 ≤ zsl h → h'.length - n0 ≤ R.cells → zsl h' - s0 ≤ R.slots → zW p l e R s m args below meth c Q D cy ν b nL n0 s0 pc' ls' st' h' → zW p l e R s m args below meth c Q D cy ν b nL n0 s0 pc ls st0 h) := by
  have hdg := zdec hdec hz (by decide)
  unfold zbr at hd
  split at hd
  next => cases hd
  next x =>
    have hp := hPx x rfl
    split at hd
    next t ht =>
      cases hd
      refine ⟨⟨Nat.le_refl _, Nat.le_refl _⟩, fun _ _ _ _ k H Ls locs hH hP hS hL => row hdg ht (fun hc => ?_) (fun hn => ?_)⟩
      · rw [hp] at hc
        subst hc
        exact k H Ls locs hH hP hS hL
      · rw [hp] at hn
        have hx : x = false := by simpa using hn
        subst hx
        exact k H Ls locs hH hP hS hL
    next => cases hd
end ZS
