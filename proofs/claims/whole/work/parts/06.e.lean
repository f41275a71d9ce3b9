/-- an instruction's length (a switch: 0) -/
def xlen (i : Instr) : Nat := match i with
  | .aload _ | .iload _ | .lload _ | .istore _ | .lstore _ | .astore _ | .bipush _ | .ldc _ | .newarray _ => 2
  | .sipush _ | .getfield _ | .putfield _ | .invokevirtual _ | .invokespecial _ | .invokestatic _ | .if_icmp _ _ | .ifCond _ _ | .ifnonnull _ | .goto _ | .iinc _ _ | .anewarray _ | .new _ | .checkcast _ | .ldc_w _ | .ldc2_w _ => 3
  | .tableswitch _ _ _ _ => 0
  | _ => 1
def xtgt (pc : Nat) (o : Int) : Bool := decide (0 ≤ (pc : Int) + o)
def xoffs (pc : Nat) (i : Instr) : Bool := match i with
  | .if_icmp _ o | .ifCond _ o | .ifnonnull o | .goto o => xtgt pc o
  | .tableswitch d lo hi offs => xtgt pc d && offs.toList.all (xtgt pc) && decide (-1000 ≤ lo) && decide (hi ≤ 1000) && decide (lo + offs.toList.length = hi + 1)
  | _ => true
def xplain (i : Instr) : Bool := match i with
  | .getstatic _ | .athrow | .i2c | .if_acmp _ _ | .ifnull _ | .instanceof _ => false
  | _ => true
def xlkk (i : Instr) (lk : Nat) : Bool := match i with
  | .baload | .bastore => lk == 1 || lk == 2
  | .aaload | .aastore => lk == 4 || lk == 5 || lk == 6
  | .new _ => match xKL[lk]? with
    | some e => decide (100 ≤ e.2.2.1)
    | none => true
  | _ => true
/-- a row is what the bytes say -/
def xrok (b : ByteArray) (r : xR) : Bool := match decode b r.1 with
  | .ok (i, n) => decide (i = r.2.1) && (xlen r.2.1 == 0 || !xplain r.2.1 || xlen r.2.1 == n) && xoffs r.1 r.2.1 && xlkk r.2.1 r.2.2.1
  | .error _ => false
theorem all_app {α : Type} {p : α → Bool} {a b : List α} (h : a.all p = true) (h2 : b.all p = true) : (a ++ b).all p = true := by
  rw [List.all_append, h, h2]
  rfl
