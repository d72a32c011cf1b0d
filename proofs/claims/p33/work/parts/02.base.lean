def zlen : Instr → Nat
  | .bipush _ | .ldc _ | .iload _ | .lload _ | .aload _ | .istore _ | .lstore _ | .astore _ | .newarray _ => 2
  | .sipush _ | .ldc_w _ | .ldc2_w _ | .iinc _ _ | .ifCond _ _ | .if_icmp _ _ | .if_acmp _ _ | .goto _ | .ifnull _ | .ifnonnull _ | .getfield _ | .putfield _ | .invokevirtual _ | .invokespecial _ | .invokestatic _ | .new _ | .anewarray _ => 3
  | .tableswitch _ _ _ _ => 0
  | _ => 1
def zchk (cc : ByteArray) (pc : Nat) (o : Option Instr) : Bool := match o with
  | none => true
  | some i => match decode cc pc with
    | .ok (j, n) => decide (j = i) && (Nat.beq n (zlen i) || Nat.beq (zlen i) 0)
    | .error _ => false
