section ZF
variable {p : Program} {l : Launch} {e : Env} {R : Room} {s : State} {m : MethodId} {args : Array Value} {below : List Frame} {meth : Method} {c : Code} {Q : State → Prop}
variable {D : va_G} {cy : Nat → ClassId} {ν : Nat → Int} {bd : zB} {b nL n0 s0 own : Nat} {ini : Bool} {ret : Option FieldType} {cc : ByteArray}
theorem oi_iconst (C : zCx p s m args meth c D cy ν bd b nL own ini ret cc) {k : Int} : zOK p l e R s m args below meth c Q D cy ν b nL n0 s0 cc (.iconst k) (hd_const 1 (0, k)) := by
  obtain ⟨hx, hb, -, hown, -, hts, -⟩ := C
  exact ok_const rfl (by decide) (fun hdg kk => lv_iconst hx hb hdg rfl kk)
theorem oi_bipush (C : zCx p s m args meth c D cy ν bd b nL own ini ret cc) {k : Int} : zOK p l e R s m args below meth c Q D cy ν b nL n0 s0 cc (.bipush k) (hd_const 2 (0, (Int8.ofInt k).toInt32.toInt)) := by
  obtain ⟨hx, hb, -, hown, -, hts, -⟩ := C
  exact ok_const rfl (by decide) (fun hdg kk => lv_bipush hx hb hdg rfl (by rw [zg0] at kk; exact kk))
theorem oi_sipush (C : zCx p s m args meth c D cy ν bd b nL own ini ret cc) {k : Int} : zOK p l e R s m args below meth c Q D cy ν b nL n0 s0 cc (.sipush k) (hd_const 3 (0, (Int16.ofInt k).toInt32.toInt)) := by
  obtain ⟨hx, hb, -, hown, -, hts, -⟩ := C
  exact ok_const rfl (by decide) (fun hdg kk => lv_sipush hx hb hdg rfl (by rw [zg0] at kk; exact kk))
theorem oi_lconst (C : zCx p s m args meth c D cy ν bd b nL own ini ret cc) {k : Fin 2} : zOK p l e R s m args below meth c Q D cy ν b nL n0 s0 cc (.lconst k) (hd_const 1 (2, (Int64.ofNat (k : Nat)).toInt)) := by
  obtain ⟨hx, hb, -, hown, -, hts, -⟩ := C
  exact ok_const rfl (by decide) (fun hdg kk => lv_lconst hx hb hdg rfl (by rw [zg2] at kk; exact kk))
theorem oi_ldc (C : zCx p s m args meth c D cy ν bd b nL own ini ret cc) {x : Nat} : zOK p l e R s m args below meth c Q D cy ν b nL n0 s0 cc (.ldc x) (match zkI own x with
    | some v => hd_const 2 (0, v)
    | none => fun _ _ _ _ => none) := by
  obtain ⟨hx, hb, -, hown, -, hts, -⟩ := C
  split
  next v hv => exact ok_const rfl (by decide) (fun hdg kk => lv_ldc hx hb hown (hts _ (zkI_ok hv)) hdg kk)
  next => exact zOK_none
theorem oi_ldcw (C : zCx p s m args meth c D cy ν bd b nL own ini ret cc) {x : Nat} : zOK p l e R s m args below meth c Q D cy ν b nL n0 s0 cc (.ldc_w x) (match zkI own x with
    | some v => hd_const 3 (0, v)
    | none => fun _ _ _ _ => none) := by
  obtain ⟨hx, hb, -, hown, -, hts, -⟩ := C
  split
  next v hv => exact ok_const rfl (by decide) (fun hdg kk => lv_ldcw hx hb hown (hts _ (zkI_ok hv)) hdg kk)
  next => exact zOK_none
theorem oi_ldc2 (C : zCx p s m args meth c D cy ν bd b nL own ini ret cc) {x : Nat} : zOK p l e R s m args below meth c Q D cy ν b nL n0 s0 cc (.ldc2_w x) (match zkJ own x with
    | some v => hd_const 3 (2, v)
    | none => fun _ _ _ _ => none) := by
  obtain ⟨hx, hb, -, hown, -, hts, -⟩ := C
  split
  next v hv => exact ok_const rfl (by decide) (fun hdg kk => lv_ldc2 hx hb hown (hts _ (zkJ_ok hv)) hdg kk)
  next => exact zOK_none
theorem oi_iload_n (C : zCx p s m args meth c D cy ν bd b nL own ini ret cc) {k : Fin 4} : zOK p l e R s m args below meth c Q D cy ν b nL n0 s0 cc (.iload_n k) (hd_load zisI 1 (k : Nat)) := by
  obtain ⟨hx, hb, -, hown, -, hts, -⟩ := C
  exact ok_load rfl (by decide) (fun ht hl hdg kk => by rw [zg_I ht] at hl kk; exact lv_iload_n hx hb hdg rfl hl kk)
theorem oi_iload (C : zCx p s m args meth c D cy ν bd b nL own ini ret cc) {k : Nat} : zOK p l e R s m args below meth c Q D cy ν b nL n0 s0 cc (.iload k) (hd_load zisI 2 k) := by
  obtain ⟨hx, hb, -, hown, -, hts, -⟩ := C
  exact ok_load rfl (by decide) (fun ht hl hdg kk => by rw [zg_I ht] at hl kk; exact lv_iload hx hb hdg hl kk)
theorem oi_lload_n (C : zCx p s m args meth c D cy ν bd b nL own ini ret cc) {k : Fin 4} : zOK p l e R s m args below meth c Q D cy ν b nL n0 s0 cc (.lload_n k) (hd_load zisJ 1 (k : Nat)) := by
  obtain ⟨hx, hb, -, hown, -, hts, -⟩ := C
  exact ok_load rfl (by decide) (fun ht hl hdg kk => by rw [zg_J ht] at hl kk; exact lv_lload_n hx hb hdg rfl hl kk)
theorem oi_lload (C : zCx p s m args meth c D cy ν bd b nL own ini ret cc) {k : Nat} : zOK p l e R s m args below meth c Q D cy ν b nL n0 s0 cc (.lload k) (hd_load zisJ 2 k) := by
  obtain ⟨hx, hb, -, hown, -, hts, -⟩ := C
  exact ok_load rfl (by decide) (fun ht hl hdg kk => by rw [zg_J ht] at hl kk; exact lv_lload hx hb hdg hl kk)
theorem oi_aload_n (C : zCx p s m args meth c D cy ν bd b nL own ini ret cc) {k : Fin 4} : zOK p l e R s m args below meth c Q D cy ν b nL n0 s0 cc (.aload_n k) (hd_load zisR 1 (k : Nat)) := by
  obtain ⟨hx, hb, -⟩ := C
  refine ok_load rfl (by decide) ?_
  intro H locs cells slots pc Ls rest v ht hl hdg kk
  rw [zg_R ht] at hl kk
  cases hr : zgR b v with
  | none => rw [hr] at hl kk; exact lv_aload_nN hx hb hdg rfl hl kk
  | some x => rw [hr] at hl kk; exact lv_aload_n hx hb hdg rfl hl kk
theorem oi_aload (C : zCx p s m args meth c D cy ν bd b nL own ini ret cc) {k : Nat} : zOK p l e R s m args below meth c Q D cy ν b nL n0 s0 cc (.aload k) (hd_load zisR 2 k) := by
  obtain ⟨hx, hb, -⟩ := C
  refine ok_load rfl (by decide) ?_
  intro H locs cells slots pc Ls rest v ht hl hdg kk
  rw [zg_R ht] at hl kk
  cases hr : zgR b v with
  | none => rw [hr] at hl kk; exact lv_aloadN hx hb hdg hl kk
  | some x => rw [hr] at hl kk; exact lv_aload hx hb hdg hl kk
theorem oi_istore_n (C : zCx p s m args meth c D cy ν bd b nL own ini ret cc) {k : Fin 4} : zOK p l e R s m args below meth c Q D cy ν b nL n0 s0 cc (.istore_n k) (hd_store zisI nL 1 (k : Nat)) := by
  obtain ⟨hx, hb, -⟩ := C
  refine ok_store rfl (by decide) ?_
  intro H locs cells slots pc Ls rest v lv ht hl hn hdg kk
  rw [zg_I ht] at kk ⊢
  exact lv_istore_n hx hb hdg rfl hl hn rfl kk
theorem oi_istore (C : zCx p s m args meth c D cy ν bd b nL own ini ret cc) {k : Nat} : zOK p l e R s m args below meth c Q D cy ν b nL n0 s0 cc (.istore k) (hd_store zisI nL 2 k) := by
  obtain ⟨hx, hb, -⟩ := C
  refine ok_store rfl (by decide) ?_
  intro H locs cells slots pc Ls rest v lv ht hl hn hdg kk
  rw [zg_I ht] at kk ⊢
  exact lv_istore hx hb hdg hl hn rfl kk
theorem oi_astore_n (C : zCx p s m args meth c D cy ν bd b nL own ini ret cc) {k : Fin 4} : zOK p l e R s m args below meth c Q D cy ν b nL n0 s0 cc (.astore_n k) (hd_store zisR nL 1 (k : Nat)) := by
  obtain ⟨hx, hb, -⟩ := C
  refine ok_store rfl (by decide) ?_
  intro H locs cells slots pc Ls rest v lv ht hl hn hdg kk
  rw [zg_R ht] at kk ⊢
  cases hr : zgR b v with
  | none => rw [hr] at kk; exact lv_astore_nN hx hb hdg rfl hl hn rfl kk
  | some x => rw [hr] at kk; exact lv_astore_n hx hb hdg rfl hl hn rfl kk
theorem oi_astore (C : zCx p s m args meth c D cy ν bd b nL own ini ret cc) {k : Nat} : zOK p l e R s m args below meth c Q D cy ν b nL n0 s0 cc (.astore k) (hd_store zisR nL 2 k) := by
  obtain ⟨hx, hb, -⟩ := C
  refine ok_store rfl (by decide) ?_
  intro H locs cells slots pc Ls rest v lv ht hl hn hdg kk
  rw [zg_R ht] at kk ⊢
  cases hr : zgR b v with
  | none => rw [hr] at kk; exact lv_astoreN hx hb hdg hl hn rfl kk
  | some x => rw [hr] at kk; exact lv_astore hx hb hdg hl hn rfl kk
theorem oi_lstore_n (C : zCx p s m args meth c D cy ν bd b nL own ini ret cc) {k : Fin 4} : zOK p l e R s m args below meth c Q D cy ν b nL n0 s0 cc (.lstore_n k) (hd_lstore nL 1 (k : Nat)) := by
  obtain ⟨hx, hb, -, hown, -, hts, -⟩ := C
  exact ok_lstore rfl (by decide) (fun hl hn hdg kk => lv_lstore_n hx hb hdg rfl hl hn rfl kk)
theorem oi_lstore (C : zCx p s m args meth c D cy ν bd b nL own ini ret cc) {k : Nat} : zOK p l e R s m args below meth c Q D cy ν b nL n0 s0 cc (.lstore k) (hd_lstore nL 2 k) := by
  obtain ⟨hx, hb, -, hown, -, hts, -⟩ := C
  exact ok_lstore rfl (by decide) (fun hl hn hdg kk => lv_lstore hx hb hdg hl hn rfl kk)
theorem oi_iadd (C : zCx p s m args meth c D cy ν bd b nL own ini ret cc) : zOK p l e R s m args below meth c Q D cy ν b nL n0 s0 cc .iadd (hd_bin (fun x y => x + y)) := by
  obtain ⟨hx, hb, -, hown, -, hts, -⟩ := C
  exact ok_bin rfl (fun hdg kk => lv_iadd hx hb hdg kk)
theorem oi_isub (C : zCx p s m args meth c D cy ν bd b nL own ini ret cc) : zOK p l e R s m args below meth c Q D cy ν b nL n0 s0 cc .isub (hd_bin (fun x y => x - y)) := by
  obtain ⟨hx, hb, -, hown, -, hts, -⟩ := C
  exact ok_bin rfl (fun hdg kk => lv_isub hx hb hdg kk)
theorem oi_imul (C : zCx p s m args meth c D cy ν bd b nL own ini ret cc) : zOK p l e R s m args below meth c Q D cy ν b nL n0 s0 cc .imul (hd_bin (fun x y => x * y)) := by
  obtain ⟨hx, hb, -, hown, -, hts, -⟩ := C
  exact ok_bin rfl (fun hdg kk => lv_imul hx hb hdg kk)
theorem oi_iand (C : zCx p s m args meth c D cy ν bd b nL own ini ret cc) : zOK p l e R s m args below meth c Q D cy ν b nL n0 s0 cc .iand (hd_bin (fun x y => x &&& y)) := by
  obtain ⟨hx, hb, -, hown, -, hts, -⟩ := C
  exact ok_bin rfl (fun hdg kk => lv_iand hx hb hdg kk)
theorem oi_ior (C : zCx p s m args meth c D cy ν bd b nL own ini ret cc) : zOK p l e R s m args below meth c Q D cy ν b nL n0 s0 cc .ior (hd_bin (fun x y => x ||| y)) := by
  obtain ⟨hx, hb, -, hown, -, hts, -⟩ := C
  exact ok_bin rfl (fun hdg kk => lv_ior hx hb hdg kk)
theorem oi_ishl (C : zCx p s m args meth c D cy ν bd b nL own ini ret cc) : zOK p l e R s m args below meth c Q D cy ν b nL n0 s0 cc .ishl (hd_bin (fun x y => x <<< (y &&& 31))) := by
  obtain ⟨hx, hb, -, hown, -, hts, -⟩ := C
  exact ok_bin rfl (fun hdg kk => lv_ishl hx hb hdg kk)
theorem oi_ishr (C : zCx p s m args meth c D cy ν bd b nL own ini ret cc) : zOK p l e R s m args below meth c Q D cy ν b nL n0 s0 cc .ishr (hd_bin (fun x y => x >>> (y &&& 31))) := by
  obtain ⟨hx, hb, -, hown, -, hts, -⟩ := C
  exact ok_bin rfl (fun hdg kk => lv_ishr hx hb hdg kk)
theorem oi_iushr (C : zCx p s m args meth c D cy ν bd b nL own ini ret cc) : zOK p l e R s m args below meth c Q D cy ν b nL n0 s0 cc .iushr (hd_bin (fun x y => (x.toUInt32 >>> (y.toUInt32 &&& Int32.toUInt32 31)).toInt32)) := by
  obtain ⟨hx, hb, -, hown, -, hts, -⟩ := C
  exact ok_bin rfl (fun hdg kk => lv_iushr hx hb hdg rfl kk)
theorem oi_idiv (C : zCx p s m args meth c D cy ν bd b nL own ini ret cc) : zOK p l e R s m args below meth c Q D cy ν b nL n0 s0 cc .idiv (hd_div (fun x y => x / y)) := by
  obtain ⟨hx, hb, -, hown, -, hts, -⟩ := C
  exact ok_div rfl (fun hdg hne kk => lv_idiv hx hb hdg hne kk)
theorem oi_irem (C : zCx p s m args meth c D cy ν bd b nL own ini ret cc) : zOK p l e R s m args below meth c Q D cy ν b nL n0 s0 cc .irem (hd_div (fun x y => x - x / y * y)) := by
  obtain ⟨hx, hb, -, hown, -, hts, -⟩ := C
  exact ok_div rfl (fun hdg hne kk => lv_irem hx hb hdg hne kk)
theorem oi_ineg (C : zCx p s m args meth c D cy ν bd b nL own ini ret cc) : zOK p l e R s m args below meth c Q D cy ν b nL n0 s0 cc .ineg (hd_un (fun x => -x)) := by
  obtain ⟨hx, hb, -, hown, -, hts, -⟩ := C
  exact ok_un rfl (fun hdg kk => lv_ineg hx hb hdg kk)
theorem oi_i2b (C : zCx p s m args meth c D cy ν bd b nL own ini ret cc) : zOK p l e R s m args below meth c Q D cy ν b nL n0 s0 cc .i2b (hd_un (fun x => x.toInt8.toInt32)) := by
  obtain ⟨hx, hb, -, hown, -, hts, -⟩ := C
  exact ok_un rfl (fun hdg kk => lv_i2b hx hb hdg rfl kk)
theorem oi_i2s (C : zCx p s m args meth c D cy ν bd b nL own ini ret cc) : zOK p l e R s m args below meth c Q D cy ν b nL n0 s0 cc .i2s (hd_un (fun x => x.toInt16.toInt32)) := by
  obtain ⟨hx, hb, -, hown, -, hts, -⟩ := C
  exact ok_un rfl (fun hdg kk => lv_i2s hx hb hdg rfl kk)
theorem oi_ladd (C : zCx p s m args meth c D cy ν bd b nL own ini ret cc) : zOK p l e R s m args below meth c Q D cy ν b nL n0 s0 cc .ladd (hd_lbin (fun x y => x + y)) := by
  obtain ⟨hx, hb, -, hown, -, hts, -⟩ := C
  exact ok_lbin rfl (fun hdg kk => lv_ladd hx hb hdg kk)
theorem oi_lsub (C : zCx p s m args meth c D cy ν bd b nL own ini ret cc) : zOK p l e R s m args below meth c Q D cy ν b nL n0 s0 cc .lsub (hd_lbin (fun x y => x - y)) := by
  obtain ⟨hx, hb, -, hown, -, hts, -⟩ := C
  exact ok_lbin rfl (fun hdg kk => lv_lsub hx hb hdg kk)
theorem oi_lmul (C : zCx p s m args meth c D cy ν bd b nL own ini ret cc) : zOK p l e R s m args below meth c Q D cy ν b nL n0 s0 cc .lmul (hd_lbin (fun x y => x * y)) := by
  obtain ⟨hx, hb, -, hown, -, hts, -⟩ := C
  exact ok_lbin rfl (fun hdg kk => lv_lmul hx hb hdg kk)
theorem oi_land (C : zCx p s m args meth c D cy ν bd b nL own ini ret cc) : zOK p l e R s m args below meth c Q D cy ν b nL n0 s0 cc .land (hd_lbin (fun x y => x &&& y)) := by
  obtain ⟨hx, hb, -, hown, -, hts, -⟩ := C
  exact ok_lbin rfl (fun hdg kk => lv_land hx hb hdg kk)
theorem oi_lor (C : zCx p s m args meth c D cy ν bd b nL own ini ret cc) : zOK p l e R s m args below meth c Q D cy ν b nL n0 s0 cc .lor (hd_lbin (fun x y => x ||| y)) := by
  obtain ⟨hx, hb, -, hown, -, hts, -⟩ := C
  exact ok_lbin rfl (fun hdg kk => lv_lor hx hb hdg kk)
theorem oi_lxor (C : zCx p s m args meth c D cy ν bd b nL own ini ret cc) : zOK p l e R s m args below meth c Q D cy ν b nL n0 s0 cc .lxor (hd_lbin (fun x y => x ^^^ y)) := by
  obtain ⟨hx, hb, -, hown, -, hts, -⟩ := C
  exact ok_lbin rfl (fun hdg kk => lv_lxor hx hb hdg kk)
theorem oi_ldiv (C : zCx p s m args meth c D cy ν bd b nL own ini ret cc) : zOK p l e R s m args below meth c Q D cy ν b nL n0 s0 cc .ldiv (hd_ldiv (fun x y => x / y)) := by
  obtain ⟨hx, hb, -, hown, -, hts, -⟩ := C
  exact ok_ldiv rfl (fun hdg hne kk => lv_ldiv hx hb hdg hne kk)
theorem oi_lrem (C : zCx p s m args meth c D cy ν bd b nL own ini ret cc) : zOK p l e R s m args below meth c Q D cy ν b nL n0 s0 cc .lrem (hd_ldiv (fun x y => x - x / y * y)) := by
  obtain ⟨hx, hb, -, hown, -, hts, -⟩ := C
  exact ok_ldiv rfl (fun hdg hne kk => lv_lrem hx hb hdg hne kk)
theorem oi_lneg (C : zCx p s m args meth c D cy ν bd b nL own ini ret cc) : zOK p l e R s m args below meth c Q D cy ν b nL n0 s0 cc .lneg (hd_lun (fun x => -x)) := by
  obtain ⟨hx, hb, -, hown, -, hts, -⟩ := C
  exact ok_lun rfl (fun hdg kk => lv_lneg hx hb hdg kk)
theorem oi_lshl (C : zCx p s m args meth c D cy ν bd b nL own ini ret cc) : zOK p l e R s m args below meth c Q D cy ν b nL n0 s0 cc .lshl (hd_lsh (fun x y => x <<< (y.toInt64 &&& 63))) := by
  obtain ⟨hx, hb, -, hown, -, hts, -⟩ := C
  exact ok_lsh rfl (fun hdg kk => lv_lshl hx hb hdg rfl kk)
theorem oi_lushr (C : zCx p s m args meth c D cy ν bd b nL own ini ret cc) : zOK p l e R s m args below meth c Q D cy ν b nL n0 s0 cc .lushr (hd_lsh (fun x y => (x.toUInt64 >>> (y.toInt64.toUInt64 &&& Int64.toUInt64 63)).toInt64)) := by
  obtain ⟨hx, hb, -, hown, -, hts, -⟩ := C
  exact ok_lsh rfl (fun hdg kk => lv_lushr hx hb hdg rfl kk)
theorem ok_retx {i : Instr} {rk w : Nat} : zOK p l e R s m args below meth c Q D cy ν b nL n0 s0 cc i (hd_ret rk w) := by
  intro pc ls st h pc' ls' st' h' hd _
  unfold hd_ret at hd
  simp only [Bool.cond_eq_ite] at hd
  (repeat' split at hd) <;> cases hd
set_option maxHeartbeats 4000000 in
theorem zops_ok (C : zCx p s m args meth c D cy ν bd b nL own ini ret cc) {d rk : Nat} {call : zCall} (hc : zCO l D cy ν b d call) (hR1 : d + 1 ≤ R.frames) (hR2 : 36 * (d + 1) ≤ R.locals) (i : Instr) : zOK p l e R s m args below meth c Q D cy ν b nL n0 s0 cc i (zops call bd own nL rk ini i) := by
  cases i with
  | iconst k => exact oi_iconst C
  | bipush k => exact oi_bipush C
  | sipush k => exact oi_sipush C
  | lconst k => exact oi_lconst C
  | ldc x => exact oi_ldc C
  | ldc_w x => exact oi_ldcw C
  | ldc2_w x => exact oi_ldc2 C
  | iload_n k => exact oi_iload_n C
  | iload k => exact oi_iload C
  | lload_n k => exact oi_lload_n C
  | lload k => exact oi_lload C
  | aload_n k => exact oi_aload_n C
  | aload k => exact oi_aload C
  | istore_n k => exact oi_istore_n C
  | istore k => exact oi_istore C
  | astore_n k => exact oi_astore_n C
  | astore k => exact oi_astore C
  | lstore_n k => exact oi_lstore_n C
  | lstore k => exact oi_lstore C
  | iinc x k => exact ok_iinc C
  | iadd => exact oi_iadd C
  | isub => exact oi_isub C
  | imul => exact oi_imul C
  | iand => exact oi_iand C
  | ior => exact oi_ior C
  | ishl => exact oi_ishl C
  | ishr => exact oi_ishr C
  | iushr => exact oi_iushr C
  | idiv => exact oi_idiv C
  | irem => exact oi_irem C
  | ineg => exact oi_ineg C
  | i2b => exact oi_i2b C
  | i2s => exact oi_i2s C
  | ladd => exact oi_ladd C
  | lsub => exact oi_lsub C
  | lmul => exact oi_lmul C
  | land => exact oi_land C
  | lor => exact oi_lor C
  | lxor => exact oi_lxor C
  | ldiv => exact oi_ldiv C
  | lrem => exact oi_lrem C
  | lneg => exact oi_lneg C
  | lshl => exact oi_lshl C
  | lushr => exact oi_lushr C
  | i2l => exact ok_i2l C
  | l2i => exact ok_l2i C
  | lcmp => exact ok_lcmp C
  | dup => exact ok_dup C
  | dup2 => exact ok_dup2 C
  | pop => exact ok_pop C
  | ifCond c off => exact ok_if C
  | if_icmp c off => exact ok_icmp C
  | if_acmp c off => exact ok_acmp C
  | ifnull off => exact ok_null C
  | ifnonnull off => exact ok_nonnull C
  | goto off => exact ok_goto C
  | tableswitch d lo hi offs => exact ok_table C
  | iaload => exact ok_iald C
  | laload => exact ok_lald C
  | baload => exact ok_zald C
  | aaload => exact ok_aald C
  | iastore => exact ok_iast C
  | lastore => exact ok_last C
  | bastore => exact ok_zast C
  | aastore => exact ok_aast C
  | arraylength => exact ok_alen C
  | newarray t => exact ok_newa C
  | anewarray x => exact ok_anew C
  | new x => exact ok_new C
  | getfield x => exact ok_get C
  | putfield x => exact ok_put C
  | invokevirtual x => exact ok_virt C hc zm_ok hR1 hR2
  | invokestatic x => exact ok_stat C hc zm_ok hR1 hR2
  | invokespecial x => exact ok_spec C hc zm_ok hR1 hR2
  | ireturn => exact ok_retx
  | lreturn => exact ok_retx
  | areturn => exact ok_retx
  | return_ => exact ok_retx
  | _ => exact zOK_none
theorem zops_ret (C : zCx p s m args meth c D cy ν bd b nL own ini ret cc) {rk : Nat} {call : zCall} (hr : zrkok rk ret) (i : Instr) (hi : zisret i = true) : zOKr p l e R s m args below meth c Q D cy ν b nL n0 s0 cc i (zops call bd own nL rk ini i) := by
  unfold zisret at hi
  split at hi
  · exact ok_ret0 C hr
  · exact ok_ret1 C hr
  · exact ok_ret2 C hr
  · exact ok_ret3 C hr
  · cases hi
theorem zrun_ok {ops : Instr → zHd} {code : Nat → Option Instr} (hops : ∀ i, zOK p l e R s m args below meth c Q D cy ν b nL n0 s0 cc i (ops i)) (hret : ∀ i, zisret i = true → zOKr p l e R s m args below meth c Q D cy ν b nL n0 s0 cc i (ops i)) (hcode : ∀ (pc : Nat) (i : Instr), code pc = some i → pc < 512 → ∃ n, decode cc pc = .ok (i, n) ∧ (n = zlen i ∨ zlen i = 0)) (r : Option zV) (h' : zH) :
    ∀ (fuel pc : Nat) (ls : zL) (st : List zV) (h : zH), zrun ops code fuel pc ls st h = some (r, h') → (h.length ≤ h'.length ∧ zsl h ≤ zsl h') ∧ (n0 ≤ h.length → s0 ≤ zsl h → h'.length - n0 ≤ R.cells → zsl h' - s0 ≤ R.slots → Q = MQ below (zQc D cy ν b r h') args s (h'.length - n0) (zsl h' - s0) (fun x : Nat => b ≤ x) → zW p l e R s m args below meth c Q D cy ν b nL n0 s0 pc ls st h) := by
  intro fuel
  induction fuel with
  | zero => intro pc ls st h hr; cases hr
  | succ n ih =>
    intro pc ls st h hr
    replace hr : zfN pc (fun pc => match cond (Nat.blt pc 512) (code pc) none with
      | none => none
      | some i => match ops i pc ls st h with
        | none => none
        | some (.inl q) => zrun ops code n q.1 q.2.1 q.2.2.1 q.2.2.2
        | some (.inr r) => cond (zisret i) (some r) none) = some (r, h') := hr
    rw [zfN_eq] at hr
    cases hp : Nat.blt pc 512 with
    | false => rw [hp] at hr; cases hr
    | true =>
      rw [hp] at hr
      dsimp only [cond] at hr
      have hp2 : pc < 512 := by simpa [Nat.blt_eq] using hp
      split at hr
      next => cases hr
      next i hi =>
        have hdec := hcode pc i hi hp2
        split at hr
        next => cases hr
        next q hq =>
          obtain ⟨pc1, ls1, st1, h1⟩ := q
          obtain ⟨⟨m1, m2⟩, k1⟩ := hops i pc ls st h pc1 ls1 st1 h1 hq hdec
          obtain ⟨⟨m3, m4⟩, k2⟩ := ih pc1 ls1 st1 h1 hr
          refine ⟨⟨Nat.le_trans m1 m3, Nat.le_trans m2 m4⟩, fun i1 i2 i3 i4 hQ => k1 i1 i2 ?_ ?_ (k2 (Nat.le_trans i1 m1) (Nat.le_trans i2 m2) i3 i4 hQ)⟩
          · exact Nat.le_trans (Nat.sub_le_sub_right m3 n0) i3
          · exact Nat.le_trans (Nat.sub_le_sub_right m4 s0) i4
        next q hq =>
          cases hz : zisret i with
          | false => rw [hz] at hr; cases hr
          | true =>
            rw [hz] at hr
            have e1 : q = (r, h') := Option.some.inj hr
            subst e1
            obtain ⟨rfl, k1⟩ := hret i hz pc ls st h r h' hq hdec
            exact ⟨⟨Nat.le_refl _, Nat.le_refl _⟩, fun _ _ _ _ hQ => k1 hQ⟩
end ZF
theorem zargs_eq (ν : Nat → Int) (b : Nat) : ∀ (as : List zV) (i : Nat), lv_args i (as.map (zg ν b)) = zlm ν b (zargs as i) := by
  intro as
  induction as with
  | nil => intro i; rfl
  | cons v as ih =>
    intro i
    show (i, zg ν b v) :: lv_args (if (zg ν b v).category = 2 then i + 2 else i + 1) (as.map (zg ν b)) = (i, zg ν b v) :: zlm ν b (zargs as (cond (Nat.beq (zcat v) 2) (i + 2) (i + 1)))
    rw [ih, zg_cat]
    congr 3
    by_cases h : zcat v = 2
    · have : Nat.beq (zcat v) 2 = true := by rw [h]; rfl
      rw [if_pos h, this]; rfl
    · have : Nat.beq (zcat v) 2 = false := by
        cases hc : Nat.beq (zcat v) 2 with
        | false => rfl
        | true => exact absurd (Nat.eq_of_beq_eq_true hc) h
      rw [if_neg h, this]; rfl
theorem zsl_len (ν : Nat → Int) (b : Nat) (as : List zV) : (lg_sl (as.map (zg ν b))).length = zsum as := by
  induction as with
  | nil => rfl
  | cons v as ih =>
    have e1 : lg_sl ((v :: as).map (zg ν b)) = (if (zg ν b v).category = 2 then [Slot.val (zg ν b v), .second] else [.val (zg ν b v)]) ++ lg_sl (as.map (zg ν b)) := by
      simp [lg_sl]
    rw [e1, List.length_append, ih, zg_cat]
    have e2 : zsum (v :: as) = zcat v + zsum as := by simp [zsum]
    rw [e2]
    congr 1
    obtain ⟨t, x⟩ := v
    match t with
    | 0 => rfl
    | 1 => rfl
    | 2 => rfl
    | 3 => rfl
    | _ + 4 => rfl
/-- the executor's answer is the machine's, at every depth -/
theorem zexec_ok (l : Launch) (D : va_G) (cy : Nat → ClassId) (ν : Nat → Int) (bd : zB) (hν : ∀ i, (bd i).1 ≤ ν i ∧ ν i ≤ (bd i).2) (b F : Nat) : ∀ d : Nat, zCO l D cy ν b d (zexec bd F d) := by
  intro d
  induction d with
  | zero => intro y as h r h' q _ hr; cases hr
  | succ d ih =>
    intro y as h r h' q hq hr
    refine ⟨mo_exec bd F (d + 1) y as h r h' hr, ?_⟩
    replace hr : zbody (zexec bd F d) bd F y as h = some (r, h') := hr
    unfold zbody at hr
    rw [hq] at hr
    dsimp only at hr
    cases hn : Nat.ble (zsum as) q.2.2.1 with
    | false => rw [hn] at hr; cases hr
    | true =>
      rw [hn] at hr
      dsimp only [cond] at hr
      have hn2 : zsum as ≤ q.2.2.1 := Nat.le_of_ble_eq_true hn
      have hmo := zm_ok y q hq
      obtain ⟨o1, o2, o3, o4, o5, o6, o7, o8, o9, o10⟩ := hmo
      refine Met.ofW (cc := q.2.1) (maxL := q.2.2.1) (ret := q.2.2.2.1) o4 rfl ?_
      intro p e s m args below meth c s₁ B hml hv
      obtain ⟨rfl, hsz, hP, hK, hW⟩ := hv
      have hts : ∀ w ∈ lw_tbl, w.before (as.map (zg ν b)).toArray s = true := fun w hm => zw_warm (s := s) (U := s) (State.WarmedH.refl s) (List.all_eq_true.mp ztbl_ok w hm) (hW w hm)
      have hown : s.vm.findClass (zR q.2.2.2.2.1) = some m.cls := by rw [← o3]; exact findClass_of_methodNamed B.named
      have C : zCx p s m (as.map (zg ν b)).toArray meth c D cy ν bd b q.2.2.1 q.2.2.2.2.1 q.2.2.2.2.2.2.2.1 q.2.2.2.1 q.2.1 := ⟨B.exec, B.bytes, hml, hown, hK, hts, B.notSynchronized, fun hi => (name_of_methodNamed B.named B.method).1.trans (o8 hi), B.returns, hν, by omega⟩
      have hl := lv_entry (as.map (zg ν b)) (n := q.2.2.1) (by rw [zsl_len]; exact hn2)
      rw [lg_entry_eq]
      generalize (lg_sl (as.map (zg ν b)) ++ List.replicate (q.2.2.1 - (lg_sl (as.map (zg ν b))).length) Slot.unset).toArray = Ls at hl ⊢
      rw [zargs_eq] at hl
      have main := (zrun_ok (p := p) (l := l) (e := e) (R := (headSpec [Cond.code q.1 q.2.1 q.2.2.1 q.2.2.2.1] (zrm (d + 1) h h')).room) (s := s) (m := m) (args := (as.map (zg ν b)).toArray) (below := below) (meth := meth) (c := c) (Q := MQ below (zQc D cy ν b r h') (as.map (zg ν b)).toArray s (h'.length - h.length) (zsl h' - zsl h) (fun x : Nat => b ≤ x)) (D := D) (cy := cy) (ν := ν) (b := b) (nL := q.2.2.1) (n0 := h.length) (s0 := zsl h) (cc := q.2.1) (fun i => zops_ok C ih (Nat.le_refl _) (Nat.le_refl _) i) (fun i hi => zops_ret C o7 i hi) o10 r h' F 0 (zargs as 0) [] h hr).2 (Nat.le_refl _) (Nat.le_refl _) (Nat.le_refl _) (Nat.le_refl _) rfl
      have k1 := main s.heap Ls [] hsz hP va_S.rf hl
      rw [Nat.sub_self, Nat.sub_self] at k1
      exact k1

