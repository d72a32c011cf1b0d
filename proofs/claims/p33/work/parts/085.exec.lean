/-! values: (0, a) the int a; (1, i) an unknown int, number i; (2, a), (3, i) longs; (4, k) the k-th cell; (5, _) null -/
abbrev zV : Type := Nat × Int
abbrev zC : Type := (Nat × List zV) ⊕ (Nat × (Nat × (Nat → zV)))
abbrev zH : Type := List zC
abbrev zL : Type := List (Nat × zV)
abbrev zO : Type := (Nat × (zL × (List zV × zH))) ⊕ (Option zV × zH)
abbrev zHd : Type := Nat → zL → List zV → zH → Option zO
abbrev zCall : Type := Nat → List zV → zH → Option (Option zV × zH)
abbrev zB : Type := Nat → Int × Int
def zfN {α : Type} (n : Nat) (k : Nat → α) : α := match n with
  | 0 => k 0
  | m + 1 => k (m + 1)
def zfI {α : Type} (x : Int) (k : Int → α) : α := match x with
  | .ofNat n => zfN n (fun m => k (.ofNat m))
  | .negSucc n => zfN n (fun m => k (.negSucc m))
theorem zfN_eq {α : Type} (n : Nat) (k : Nat → α) : zfN n k = k n := by cases n <;> rfl
theorem zfI_eq {α : Type} (x : Int) (k : Int → α) : zfI x k = k x := by cases x <;> simp [zfI, zfN_eq]
noncomputable def znth {α : Type} (l : List α) : Nat → Option α := List.rec (motive := fun _ => Nat → Option α) (fun _ => none) (fun x _ ih n => Nat.rec (motive := fun _ => Option α) (some x) (fun m _ => ih m) n) l
theorem znth_eq {α : Type} (l : List α) : ∀ n : Nat, znth l n = l[n]? := by
  induction l with
  | nil => intro n; rfl
  | cons x xs ih => intro n; cases n with
    | zero => rfl
    | succ m => exact ih m
noncomputable def zset {α : Type} (l : List α) (v : α) : Nat → List α := List.rec (motive := fun _ => Nat → List α) (fun _ => []) (fun x xs ih n => Nat.rec (motive := fun _ => List α) (v :: xs) (fun m _ => x :: ih m) n) l
theorem zset_eq {α : Type} (l : List α) (v : α) : ∀ n : Nat, zset l v n = l.set n v := by
  induction l with
  | nil => intro n; rfl
  | cons x xs ih => intro n; cases n with
    | zero => rfl
    | succ m => exact congrArg (fun t => x :: t) (ih m)
def zcat (v : zV) : Nat := match v.1 with
  | 2 => 2
  | 3 => 2
  | _ => 1
def zisI (v : zV) : Bool := match v.1 with
  | 0 => true
  | 1 => true
  | _ => false
def zisJ (v : zV) : Bool := match v.1 with
  | 2 => true
  | 3 => true
  | _ => false
def zisR (v : zV) : Bool := match v.1 with
  | 0 => false
  | 1 => false
  | 2 => false
  | 3 => false
  | _ => true
noncomputable def zget (ls : zL) (i : Nat) : Option zV := List.rec (motive := fun _ => Option zV) none (fun q _ ih => cond (Nat.beq q.1 i) (some q.2) ih) ls
def zdrop (i : Nat) (q : Nat × zV) : Bool := !(Nat.beq q.1 i) && !((Nat.beq (q.1 + 1) i) && (Nat.beq (zcat q.2) 2))
def zdrop2 (i : Nat) (q : Nat × zV) : Bool := !(Nat.beq q.1 i) && (!(Nat.beq q.1 (i + 1)) && !((Nat.beq (q.1 + 1) i) && (Nat.beq (zcat q.2) 2)))
def zupd (f : Nat → zV) (j : Nat) (v : zV) : Nat → zV := fun x => cond (Nat.beq x j) v (f x)
def zcpy (f g : Nat → zV) (sp dp n : Nat) : Nat → zV := fun x => cond (Nat.ble dp x) (cond (Nat.blt x (dp + n)) (f (sp + (x - dp))) (g x)) (g x)
/-- the place that an int names in a row of n -/
def zix (n : Nat) (i : Int) : Option Nat := match (Int32.ofInt i).toInt with
  | .ofNat j => zfN j (fun j => cond (Nat.blt j n) (some j) none)
  | .negSucc _ => none
def zjmp (pc : Nat) (off : Int) (ls : zL) (st : List zV) (h : zH) : Option zO := match (pc : Int) + off with
  | .ofNat t => some (.inl (t, ls, st, h))
  | .negSucc _ => none
/-! bounds of ints and longs -/
def zrI (bd : zB) (v : zV) : Option (Int × Int) := match v.1 with
  | 0 => zfI (Int32.ofInt v.2).toInt (fun x => some (x, x))
  | 1 => cond (decide (-2147483648 ≤ (bd v.2.toNat).1) && decide ((bd v.2.toNat).2 ≤ 2147483647)) (some (bd v.2.toNat)) none
  | _ => none
def zrJ (bd : zB) (v : zV) : Option (Int × Int) := match v.1 with
  | 2 => zfI (Int64.ofInt v.2).toInt (fun x => some (x, x))
  | 3 => cond (decide (-9223372036854775808 ≤ (bd v.2.toNat).1) && decide ((bd v.2.toNat).2 ≤ 9223372036854775807)) (some (bd v.2.toNat)) none
  | _ => none
def zlt (p q : Int × Int) : Option Bool := cond (decide (p.2 < q.1)) (some true) (cond (decide (q.2 ≤ p.1)) (some false) none)
def zeq (p q : Int × Int) : Option Bool := cond (decide (p.2 < q.1)) (some false) (cond (decide (q.2 < p.1)) (some false) (cond (decide (p.1 = p.2) && decide (q.1 = q.2)) (some true) none))
def zcmp (c : Jvm.ClassFile.Cond) (p q : Int × Int) : Option Bool := match c with
  | .eq => zeq p q
  | .ne => (zeq p q).map not
  | .lt => zlt p q
  | .ge => (zlt p q).map not
  | .gt => zlt q p
  | .le => (zlt q p).map not
def zbr (o : Option Bool) (pc : Nat) (off : Int) (ls : zL) (st : List zV) (h : zH) : Option zO := match o with
  | none => none
  | some x => match (pc : Int) + off with
    | .ofNat t => some (.inl (cond x t (pc + 3), ls, st, h))
    | .negSucc _ => none
/-! the machine, an instruction a handler -/
def hd_const (n : Nat) (v : zV) : zHd := fun pc ls st h => some (.inl (pc + n, ls, v :: st, h))
noncomputable def hd_load (t : zV → Bool) (n i : Nat) : zHd := fun pc ls st h => match zget ls i with
  | some v => cond (t v) (some (.inl (pc + n, ls, v :: st, h))) none
  | none => none
def hd_store (t : zV → Bool) (nL n i : Nat) : zHd := fun pc ls st h => match st with
  | v :: r => cond (t v && Nat.blt i nL) (some (.inl (pc + n, (i, v) :: ls.filter (zdrop i), r, h))) none
  | [] => none
def hd_lstore (nL n i : Nat) : zHd := fun pc ls st h => match st with
  | v :: r => cond (zisJ v && Nat.blt (i + 1) nL) (some (.inl (pc + n, (i, v) :: ls.filter (zdrop2 i), r, h))) none
  | [] => none
noncomputable def hd_iinc (nL i : Nat) (k : Int) : zHd := fun pc ls st h => match zget ls i with
  | some (0, a) => cond (Nat.blt i nL) (zfI (Int32.ofInt a + Int32.ofInt k).toInt (fun x => some (.inl (pc + 3, (i, (0, x)) :: ls.filter (zdrop i), st, h)))) none
  | _ => none
def hd_bin (f : Int32 → Int32 → Int32) : zHd := fun pc ls st h => match st with
  | (0, b) :: (0, a) :: r => zfI (f (Int32.ofInt a) (Int32.ofInt b)).toInt (fun x => some (.inl (pc + 1, ls, (0, x) :: r, h)))
  | _ => none
def hd_div (f : Int32 → Int32 → Int32) : zHd := fun pc ls st h => match st with
  | (0, b) :: (0, a) :: r => cond (decide (Int32.ofInt b = 0)) none (zfI (f (Int32.ofInt a) (Int32.ofInt b)).toInt (fun x => some (.inl (pc + 1, ls, (0, x) :: r, h))))
  | _ => none
def hd_un (f : Int32 → Int32) : zHd := fun pc ls st h => match st with
  | (0, a) :: r => zfI (f (Int32.ofInt a)).toInt (fun x => some (.inl (pc + 1, ls, (0, x) :: r, h)))
  | _ => none
def hd_lbin (f : Int64 → Int64 → Int64) : zHd := fun pc ls st h => match st with
  | (2, b) :: (2, a) :: r => zfI (f (Int64.ofInt a) (Int64.ofInt b)).toInt (fun x => some (.inl (pc + 1, ls, (2, x) :: r, h)))
  | _ => none
def hd_ldiv (f : Int64 → Int64 → Int64) : zHd := fun pc ls st h => match st with
  | (2, b) :: (2, a) :: r => cond (decide (Int64.ofInt b = 0)) none (zfI (f (Int64.ofInt a) (Int64.ofInt b)).toInt (fun x => some (.inl (pc + 1, ls, (2, x) :: r, h))))
  | _ => none
def hd_lun (f : Int64 → Int64) : zHd := fun pc ls st h => match st with
  | (2, a) :: r => zfI (f (Int64.ofInt a)).toInt (fun x => some (.inl (pc + 1, ls, (2, x) :: r, h)))
  | _ => none
def hd_lsh (f : Int64 → Int32 → Int64) : zHd := fun pc ls st h => match st with
  | (0, b) :: (2, a) :: r => zfI (f (Int64.ofInt a) (Int32.ofInt b)).toInt (fun x => some (.inl (pc + 1, ls, (2, x) :: r, h)))
  | _ => none
def hd_i2l (bd : zB) : zHd := fun pc ls st h => match st with
  | (0, a) :: r => zfI (Int32.ofInt a).toInt64.toInt (fun x => some (.inl (pc + 1, ls, (2, x) :: r, h)))
  | (1, i) :: r => match zrI bd (1, i) with
    | some _ => some (.inl (pc + 1, ls, (3, i) :: r, h))
    | none => none
  | _ => none
def hd_l2i : zHd := fun pc ls st h => match st with
  | (2, a) :: r => zfI (Int64.ofInt a).toInt32.toInt (fun x => some (.inl (pc + 1, ls, (0, x) :: r, h)))
  | _ => none
def hd_lcmp (bd : zB) : zHd := fun pc ls st h => match st with
  | y :: x :: r => match zrJ bd x, zrJ bd y with
    | some p, some q => match zlt p q with
      | some true => some (.inl (pc + 1, ls, (0, -1) :: r, h))
      | _ => match zlt q p with
        | some true => some (.inl (pc + 1, ls, (0, 1) :: r, h))
        | _ => match zeq p q with
          | some true => some (.inl (pc + 1, ls, (0, 0) :: r, h))
          | _ => none
    | _, _ => none
  | _ => none
def hd_dup : zHd := fun pc ls st h => match st with
  | v :: r => cond (Nat.beq (zcat v) 1) (some (.inl (pc + 1, ls, v :: v :: r, h))) none
  | _ => none
def hd_dup2 : zHd := fun pc ls st h => match st with
  | v :: w :: r => cond (Nat.beq (zcat v) 1 && Nat.beq (zcat w) 1) (some (.inl (pc + 1, ls, v :: w :: v :: w :: r, h))) none
  | _ => none
def hd_pop : zHd := fun pc ls st h => match st with
  | v :: r => cond (Nat.beq (zcat v) 1) (some (.inl (pc + 1, ls, r, h))) none
  | _ => none
def hd_if (bd : zB) (c : Jvm.ClassFile.Cond) (off : Int) : zHd := fun pc ls st h => match st with
  | v :: r => match zrI bd v with
    | some p => zbr (zcmp c p (0, 0)) pc off ls r h
    | none => none
  | _ => none
def hd_icmp (bd : zB) (c : Jvm.ClassFile.Cond) (off : Int) : zHd := fun pc ls st h => match st with
  | y :: x :: r => match zrI bd x, zrI bd y with
    | some p, some q => zbr (zcmp c p q) pc off ls r h
    | _, _ => none
  | _ => none
def zsame (x y : zV) : Bool := match x.1, y.1 with
  | 4, 4 => Nat.beq x.2.toNat y.2.toNat
  | 4, _ => false
  | _, 4 => false
  | _, _ => true
def hd_acmp (c : ACond) (off : Int) : zHd := fun pc ls st h => match st with
  | y :: x :: r => cond (zisR x && zisR y) (match c with
    | .eq => zbr (some (zsame x y)) pc off ls r h
    | .ne => zbr (some (!zsame x y)) pc off ls r h) none
  | _ => none
def hd_null (b : Bool) (off : Int) : zHd := fun pc ls st h => match st with
  | v :: r => cond (zisR v) (match v.1 with
    | 4 => zbr (some (!b)) pc off ls r h
    | _ => zbr (some b) pc off ls r h) none
  | _ => none
def hd_goto (off : Int) : zHd := fun pc ls st h => zjmp pc off ls st h
def hd_table (bd : zB) (dflt lo hi : Int) (offs : Array Int) : zHd := fun pc ls st h => match st with
  | (1, i) :: r => match zrI bd (1, i) with
    | some q => cond (decide (q.2 < lo) || decide (hi < q.1)) (zjmp pc dflt ls r h) none
    | none => none
  | (0, a) :: r => zfI (Int32.ofInt a).toInt (fun x => cond (decide (x < lo) || decide (hi < x)) (zjmp pc dflt ls r h) (match offs[(x - lo).toNat]? with
    | some off => zjmp pc off ls r h
    | none => none))
  | _ => none
/-! rows -/
noncomputable def hd_ald (tt : Nat → Bool) (t : zV → Bool) : zHd := fun pc ls st h => match st with
  | (0, i) :: (4, a) :: r => match znth h a.toNat with
    | some (.inr (ty, n, f)) => cond (tt ty) (match zix n i with
      | some j => cond (t (f j)) (some (.inl (pc + 1, ls, f j :: r, h))) none
      | none => none) none
    | _ => none
  | _ => none
noncomputable def hd_ast (tt : Nat → Bool) (t : zV → Bool) : zHd := fun pc ls st h => match st with
  | v :: (0, i) :: (4, a) :: r => match znth h a.toNat with
    | some (.inr (ty, n, f)) => cond (tt ty && t v) (match zix n i with
      | some j => some (.inl (pc + 1, ls, r, zset h (.inr (ty, n, zupd f j v)) a.toNat))
      | none => none) none
    | _ => none
  | _ => none
def zbit (v : zV) : Bool := match v with
  | (0, a) => decide (Int32.ofInt a = 0) || decide (Int32.ofInt a = 1)
  | _ => false
noncomputable def hd_aast (el : Nat → Nat) : zHd := fun pc ls st h => match st with
  | (4, q) :: (0, i) :: (4, a) :: r => match znth h a.toNat with
    | some (.inr (ty, n, f)) => match znth h q.toNat with
      | some (.inl (ci, _)) => cond (Nat.blt 2 ty && Nat.blt ty 6 && Nat.beq (el ty) ci) (match zix n i with
        | some j => some (.inl (pc + 1, ls, r, zset h (.inr (ty, n, zupd f j (4, q))) a.toNat))
        | none => none) none
      | _ => none
    | _ => none
  | _ => none
noncomputable def hd_alen : zHd := fun pc ls st h => match st with
  | (4, a) :: r => match znth h a.toNat with
    | some (.inr (ty, n, _)) => cond (Nat.blt n 2147483648 && Nat.blt ty 6) (some (.inl (pc + 1, ls, (0, (n : Int)) :: r, h))) none
    | _ => none
  | _ => none
def zdef (ty : Nat) : zV := match ty with
  | 0 => (0, 0)
  | 1 => (2, 0)
  | 2 => (0, 0)
  | _ => (5, 0)
def zmk (n : Nat) (ty : Nat) : zHd := fun pc ls st h => match st with
  | (0, k) :: r => match (Int32.ofInt k).toInt with
    | .ofNat len => zfN len (fun len => cond (Nat.ble len 1000000) (zfN h.length (fun q => some (.inl (pc + n, ls, (4, (q : Int)) :: r, h ++ [.inr (ty, len, fun _ => zdef ty)])))) none)
    | .negSucc _ => none
  | _ => none
def ztyA : ArrayType → Option Nat
  | .int => some 0
  | .long => some 1
  | .boolean => some 2
  | _ => none
def hd_newa (t : ArrayType) : zHd := fun pc ls st h => match ztyA t with
  | some ty => zmk 2 ty pc ls st h
  | none => none
def hd_anew (o : Option Nat) : zHd := fun pc ls st h => match o with
  | some ty => zmk 3 ty pc ls st h
  | none => none
def zdfs (fs : List Nat) : List zV := fs.map (fun t => match t with
  | 0 => (0, 0)
  | 1 => (2, 0)
  | _ => (5, 0))
def hd_new (kinds : Nat → List Nat) (o : Option Nat) : zHd := fun pc ls st h => match o with
  | some ci => zfN h.length (fun q => some (.inl (pc + 3, ls, (4, (q : Int)) :: st, h ++ [.inl (ci, zdfs (kinds ci))])))
  | none => none
noncomputable def hd_get (o : Option (Nat × Nat)) : zHd := fun pc ls st h => match st with
  | (4, a) :: r => match znth h a.toNat, o with
    | some (.inl (ci, fs)), some (cj, k) => cond (Nat.beq ci cj) (match znth fs k with
      | some v => some (.inl (pc + 3, ls, v :: r, h))
      | none => none) none
    | _, _ => none
  | _ => none
/-- a field's kind (0 int, 1 long, 2 a reference) fits a value -/
def zfit (t : Nat) (v : zV) : Bool := match t with
  | 0 => zisI v
  | 1 => zisJ v
  | 2 => zisR v
  | _ => false
noncomputable def hd_put (kinds : Nat → List Nat) (fin : Nat → Nat → Bool) (own : Nat) (ini : Bool) (o : Option (Nat × Nat)) : zHd := fun pc ls st h => match st with
  | v :: (4, a) :: r => match znth h a.toNat, o with
    | some (.inl (ci, fs)), some (cj, k) => cond (Nat.beq ci cj && (!(fin ci k) || (ini && Nat.beq own ci)) && Nat.blt k fs.length) (match znth (kinds ci) k with
      | some t => cond (zfit t v) (some (.inl (pc + 3, ls, r, zset h (.inl (ci, zset fs v k)) a.toNat))) none
      | none => none) none
    | _, _ => none
  | _ => none
/-! calls -/
def zsum (st : List zV) : Nat := (st.map zcat).sum
def zback (call : zCall) (y : Nat) (as : List zV) (pc : Nat) (ls : zL) (r : List zV) (h : zH) : Option zO := match call y as h with
  | some (v, h') => some (.inl (pc + 3, ls, v.toList ++ r, h'))
  | none => none
noncomputable def hd_virt (call : zCall) (na ow : Nat → Nat) (o : Option (Nat × Nat)) : zHd := fun pc ls st h => match o with
  | some (k, y) => cond (Nat.blt k 2) (match st.drop (na y) with
    | (4, a) :: r => match znth h a.toNat with
      | some (.inl (ci, _)) => cond (Nat.beq ci (ow y) && Nat.ble (zsum r) 8 && Nat.beq (st.take (na y)).length (na y)) (zback call y ((4, a) :: (st.take (na y)).reverse) pc ls r h) none
      | _ => none
    | _ => none) none
  | none => none
noncomputable def hd_copy : zHd := fun pc ls st h => match st with
  | (0, n) :: (0, dp) :: (4, d) :: (0, sp) :: (4, s) :: r => match znth h s.toNat, znth h d.toNat with
    | some (.inr (1, n0, f)), some (.inr (1, n1, g)) => match (Int32.ofInt n).toInt, (Int32.ofInt dp).toInt, (Int32.ofInt sp).toInt with
      | .ofNat n, .ofNat dp, .ofNat sp => zfN n (fun n => zfN dp (fun dp => zfN sp (fun sp => cond (Nat.ble (sp + n) n0 && Nat.ble (dp + n) n1 && Nat.ble (zsum r) 8) (some (.inl (pc + 3, ls, r, zset h (.inr (1, n1, zcpy f g sp dp n)) d.toNat))) none)))
      | _, _, _ => none
    | _, _ => none
  | _ => none
noncomputable def hd_stat (call : zCall) (na : Nat → Nat) (o : Option (Nat × Nat)) : zHd := fun pc ls st h => match o with
  | some (2, y) => cond (Nat.ble (zsum (st.drop (na y))) 8 && Nat.beq (st.take (na y)).length (na y)) (zback call y (st.take (na y)).reverse pc ls (st.drop (na y)) h) none
  | some (3, y) => cond (Nat.ble (zsum (st.drop (na y))) 8 && Nat.beq (st.take (na y)).length (na y)) (zback call y (st.take (na y)).reverse pc ls (st.drop (na y)) h) none
  | some (7, _) => hd_copy pc ls st h
  | some (8, _) => match st with
    | (0, y) :: (0, x) :: r => cond (Nat.ble (zsum r) 8) (zfI (if Int32.ofInt x < Int32.ofInt y then Int32.ofInt y else Int32.ofInt x).toInt (fun z => some (.inl (pc + 3, ls, (0, z) :: r, h)))) none
    | _ => none
  | _ => none
noncomputable def hd_spec (call : zCall) (na : Nat → Nat) (o : Option (Nat × Nat)) : zHd := fun pc ls st h => match o with
  | some (6, _) => match st with
    | (4, _) :: r => cond (Nat.ble (zsum r) 8) (some (.inl (pc + 3, ls, r, h))) none
    | _ => none
  | some (k, y) => cond (Nat.beq k 4 || Nat.beq k 5) (match st.drop (na y) with
    | (4, a) :: r => cond (Nat.ble (zsum r) 8 && Nat.beq (st.take (na y)).length (na y)) (zback call y ((4, a) :: (st.take (na y)).reverse) pc ls r h) none
    | _ => none) none
  | none => none
/-! answers: rk 0 none, 1 an int, 2 a boolean, 3 a long, 4 a reference -/
def hd_ret (rk : Nat) (w : Nat) : zHd := fun _ _ st h => match st with
  | [v] => match rk, w with
    | 1, 0 => cond (zisI v) (some (.inr (some v, h))) none
    | 2, 0 => cond (zbit v) (some (.inr (some v, h))) none
    | 3, 1 => cond (zisJ v) (some (.inr (some v, h))) none
    | 4, 2 => cond (zisR v) (some (.inr (some v, h))) none
    | _, _ => none
  | [] => match rk, w with
    | 0, 3 => some (.inr (none, h))
    | _, _ => none
  | _ => none
