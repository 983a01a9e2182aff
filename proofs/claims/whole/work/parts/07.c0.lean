/-! the tables against the code: every block decodes as it stands there -/
def am_okI (pc : Nat) (i : Instr) (n : Nat) : Bool := match i with
  | .iconst k => Nat.beq n 1 && decide (Int32.ofInt k = am_c k)
  | .bipush k => Nat.beq n 2 && decide ((Int8.ofInt k).toInt32 = am_c k)
  | .sipush k => Nat.beq n 3 && decide ((Int16.ofInt k).toInt32 = am_c k)
  | .ldc _ => Nat.beq n 2
  | .ldc_w _ => Nat.beq n 3
  | .iload_n _ => Nat.beq n 1
  | .iload _ => Nat.beq n 2
  | .aload_n _ => Nat.beq n 1
  | .istore_n _ => Nat.beq n 1
  | .istore _ => Nat.beq n 2
  | .iinc _ k => Nat.beq n 3 && decide (Int32.ofInt k = am_c k)
  | .getfield _ => Nat.beq n 3
  | .putfield _ => Nat.beq n 3
  | .getstatic _ => Nat.beq n 3
  | .goto off => decide (0 ≤ (pc : Int) + off) && Nat.beq n 3
  | .ifCond _ off => decide (0 ≤ (pc : Int) + off) && Nat.beq n 3
  | .if_icmp _ off => decide (0 ≤ (pc : Int) + off) && Nat.beq n 3
  | .tableswitch d lo hi offs => decide (0 ≤ (pc : Int) + d) && decide (hi + 1 = lo + offs.toList.length) && decide (-1000 ≤ lo) && decide (hi ≤ 1000) && offs.toList.all (fun o => decide (0 ≤ (pc : Int) + o))
  | .lookupswitch d ps => decide (0 ≤ (pc : Int) + d) && (ps.toList.zip (ps.toList.drop 1)).all (fun (a, next) => a.1 < next.1) && ps.toList.all (fun o => decide (0 ≤ (pc : Int) + o.2) && decide (-1000 ≤ o.1) && decide (o.1 ≤ 1000))
  | .invokevirtual _ => Nat.beq n 3
  | .invokestatic _ => Nat.beq n 3
  | _ => Nat.beq n 1
def am_chk (cc : ByteArray) : Nat → List (Instr × Nat) → Bool
  | _, [] => true
  | pc, q :: r => (decide (decode cc pc = .ok (q.1, q.2)) && am_okI pc q.1 q.2) && am_chk cc (pc + q.2) r
def am_chkM (cc : ByteArray) (l : List (Nat × List (Instr × Nat))) : Bool := l.all (fun q => am_chk cc q.1 q.2)
def am_cd (y : Nat) : ByteArray := match am_fa am_MT y with
  | some q => q.2.1
  | none => code
