noncomputable def zops (call : zCall) (bd : zB) (own nL rk : Nat) (ini : Bool) (i : Instr) : zHd := match i with
  | .iconst k => hd_const 1 (0, k)
  | .bipush k => hd_const 2 (0, (Int8.ofInt k).toInt32.toInt)
  | .sipush k => hd_const 3 (0, (Int16.ofInt k).toInt32.toInt)
  | .lconst k => hd_const 1 (2, (Int64.ofNat (k : Nat)).toInt)
  | .ldc x => match zkI own x with
    | some v => hd_const 2 (0, v)
    | none => fun _ _ _ _ => none
  | .ldc_w x => match zkI own x with
    | some v => hd_const 3 (0, v)
    | none => fun _ _ _ _ => none
  | .ldc2_w x => match zkJ own x with
    | some v => hd_const 3 (2, v)
    | none => fun _ _ _ _ => none
  | .iload_n k => hd_load zisI 1 (k : Nat)
  | .iload k => hd_load zisI 2 k
  | .lload_n k => hd_load zisJ 1 (k : Nat)
  | .lload k => hd_load zisJ 2 k
  | .aload_n k => hd_load zisR 1 (k : Nat)
  | .aload k => hd_load zisR 2 k
  | .istore_n k => hd_store zisI nL 1 (k : Nat)
  | .istore k => hd_store zisI nL 2 k
  | .astore_n k => hd_store zisR nL 1 (k : Nat)
  | .astore k => hd_store zisR nL 2 k
  | .lstore_n k => hd_lstore nL 1 (k : Nat)
  | .lstore k => hd_lstore nL 2 k
  | .iinc x k => hd_iinc nL x k
  | .iadd => hd_bin (fun x y => x + y)
  | .isub => hd_bin (fun x y => x - y)
  | .imul => hd_bin (fun x y => x * y)
  | .iand => hd_bin (fun x y => x &&& y)
  | .ior => hd_bin (fun x y => x ||| y)
  | .ishl => hd_bin (fun x y => x <<< (y &&& 31))
  | .ishr => hd_bin (fun x y => x >>> (y &&& 31))
  | .iushr => hd_bin (fun x y => (x.toUInt32 >>> (y.toUInt32 &&& Int32.toUInt32 31)).toInt32)
  | .idiv => hd_div (fun x y => x / y)
  | .irem => hd_div (fun x y => x - x / y * y)
  | .ineg => hd_un (fun x => -x)
  | .i2b => hd_un (fun x => x.toInt8.toInt32)
  | .i2s => hd_un (fun x => x.toInt16.toInt32)
  | .ladd => hd_lbin (fun x y => x + y)
  | .lsub => hd_lbin (fun x y => x - y)
  | .lmul => hd_lbin (fun x y => x * y)
  | .land => hd_lbin (fun x y => x &&& y)
  | .lor => hd_lbin (fun x y => x ||| y)
  | .lxor => hd_lbin (fun x y => x ^^^ y)
  | .ldiv => hd_ldiv (fun x y => x / y)
  | .lrem => hd_ldiv (fun x y => x - x / y * y)
  | .lneg => hd_lun (fun x => -x)
  | .lshl => hd_lsh (fun x y => x <<< (y.toInt64 &&& 63))
  | .lushr => hd_lsh (fun x y => (x.toUInt64 >>> (y.toInt64.toUInt64 &&& Int64.toUInt64 63)).toInt64)
  | .i2l => hd_i2l bd
  | .l2i => hd_l2i
  | .lcmp => hd_lcmp bd
  | .dup => hd_dup
  | .dup2 => hd_dup2
  | .pop => hd_pop
  | .ifCond c off => hd_if bd c off
  | .if_icmp c off => hd_icmp bd c off
  | .if_acmp c off => hd_acmp c off
  | .ifnull off => hd_null true off
  | .ifnonnull off => hd_null false off
  | .goto off => hd_goto off
  | .tableswitch d lo hi offs => hd_table bd d lo hi offs
  | .iaload => hd_ald (fun t => Nat.beq t 0) zisI
  | .laload => hd_ald (fun t => Nat.beq t 1) zisJ
  | .baload => hd_ald (fun t => Nat.beq t 2) zbit
  | .aaload => hd_ald (fun t => Nat.blt 2 t && Nat.blt t 6) zisR
  | .iastore => hd_ast (fun t => Nat.beq t 0) zisI
  | .lastore => hd_ast (fun t => Nat.beq t 1) zisJ
  | .bastore => hd_ast (fun t => Nat.beq t 2) zbit
  | .aastore => hd_aast zel
  | .arraylength => hd_alen
  | .newarray t => hd_newa t
  | .anewarray x => hd_anew (zal own x)
  | .new x => hd_new zkinds (zcl own x)
  | .getfield x => hd_get (zfl own x)
  | .putfield x => hd_put zkinds zfin own ini (zfl own x)
  | .invokevirtual x => hd_virt call zna zown (zml own x)
  | .invokestatic x => hd_stat call zna (zml own x)
  | .invokespecial x => hd_spec call zna (zml own x)
  | .ireturn => hd_ret rk 0
  | .lreturn => hd_ret rk 1
  | .areturn => hd_ret rk 2
  | .return_ => hd_ret rk 3
  | _ => fun _ _ _ _ => none
def zisret (i : Instr) : Bool := match i with
  | .ireturn => true
  | .lreturn => true
  | .areturn => true
  | .return_ => true
  | _ => false
noncomputable def zrun (ops : Instr → zHd) (code : Nat → Option Instr) (fuel : Nat) : Nat → zL → List zV → zH → Option (Option zV × zH) :=
  Nat.rec (motive := fun _ => Nat → zL → List zV → zH → Option (Option zV × zH)) (fun _ _ _ _ => none)
    (fun _ ih pc ls st h => zfN pc (fun pc => match cond (Nat.blt pc 512) (code pc) none with
      | none => none
      | some i => match ops i pc ls st h with
        | none => none
        | some (.inl q) => ih q.1 q.2.1 q.2.2.1 q.2.2.2
        | some (.inr r) => cond (zisret i) (some r) none)) fuel
noncomputable def zargs (vs : List zV) : Nat → zL := List.rec (motive := fun _ => Nat → zL) (fun _ => []) (fun v _ ih i => (i, v) :: ih (cond (Nat.beq (zcat v) 2) (i + 2) (i + 1))) vs
noncomputable def zbody (call : zCall) (bd : zB) (F : Nat) : zCall := fun y as h => match zm y with
  | none => none
  | some q => cond (Nat.ble (zsum as) q.2.2.1) (zrun (zops call bd q.2.2.2.2.1 q.2.2.1 q.2.2.2.2.2.2.1 q.2.2.2.2.2.2.2.1) q.2.2.2.2.2.2.2.2 F 0 (zargs as 0) [] h) none
noncomputable def zexec (bd : zB) (F : Nat) (d : Nat) : zCall := Nat.rec (motive := fun _ => zCall) (fun _ _ _ => none) (fun _ ih => zbody ih bd F) d
