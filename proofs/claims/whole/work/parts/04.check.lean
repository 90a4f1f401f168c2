def nbeq (a b : Nat) : Bool := Nat.beq a b
/-- an entry is what its instruction says -/
def chk (y : Nat) (e : En) : Bool := match e with
  | (pc, I, nxt, a, b, sw, v, l) => match I with
    | .iconst n => decide (Int32.ofInt n = v)
    | .bipush n => decide ((Int8.ofInt n).toInt32 = v)
    | .sipush n => decide ((Int16.ofInt n).toInt32 = v)
    | .ldc i => cIT.any (fun q => nbeq q.1 (mI y).2.2.2.1 && nbeq q.2.1 i && decide (q.2.2.1 = v))
    | .ldc_w i => cIT.any (fun q => nbeq q.1 (mI y).2.2.2.1 && nbeq q.2.1 i && decide (q.2.2.1 = v))
    | .lconst n => decide (Int64.ofNat (n : Nat) = l)
    | .ldc2_w i => cJT.any (fun q => nbeq q.1 (mI y).2.2.2.1 && nbeq q.2.1 i && decide (q.2.2.1 = l))
    | .iload i => nbeq i a
    | .iload_n i => nbeq (i : Nat) a
    | .lload i => nbeq i a
    | .lload_n i => nbeq (i : Nat) a
    | .aload i => nbeq i a
    | .aload_n i => nbeq (i : Nat) a
    | .istore i => nbeq i a
    | .istore_n i => nbeq (i : Nat) a
    | .lstore i => nbeq i a
    | .lstore_n i => nbeq (i : Nat) a
    | .astore i => nbeq i a
    | .astore_n i => nbeq (i : Nat) a
    | .iinc i n => nbeq i a && decide (Int32.ofInt n = v)
    | .if_icmp _ off => decide ((pc : Int) + off = (a : Int))
    | .ifCond _ off => decide ((pc : Int) + off = (a : Int))
    | .goto off => decide ((pc : Int) + off = (a : Int))
    | .tableswitch d lo hi offs => decide ((pc : Int) + d = (a : Int)) && decide (offs.toList.map (fun o => (pc : Int) + o) = sw.map (fun (t : Nat) => (t : Int))) && decide ((sw.length : Int) = hi - lo + 1)
    | .lookupswitch d ps => decide ((pc : Int) + d = (a : Int)) && decide (ps.toList.map (fun o => (pc : Int) + o.2) = sw.map (fun (t : Nat) => (t : Int))) && (ps.toList.zip (ps.toList.drop 1)).all (fun (a, next) => a.1 < next.1)
    | .getfield i => fldT.any (fun q => nbeq q.1 (mI y).2.2.2.1 && nbeq q.2.1 i && nbeq q.2.2.1 a && nbeq q.2.2.2.1 b)
    | .putfield i => fldT.any (fun q => nbeq q.1 (mI y).2.2.2.1 && nbeq q.2.1 i && nbeq q.2.2.1 a && nbeq q.2.2.2.1 b) && decide ((tN a b).2.2.2 = false)
    | .getstatic i => nbeq (mI y).2.2.2.1 5 && nbeq i 230
    | .invokestatic i => match b with
      | 0 => csT.any (fun q => nbeq q.1 (mI y).2.2.2.1 && nbeq q.2.1 i && nbeq q.2.2.1 a) && Nat.ble ((mI a).2.2.2.2.1 + 1) (mI y).2.2.2.2.1 && Nat.ble (8 + ((mI a).2.1 + 11) + (mI a).2.2.2.2.2) (mI y).2.2.2.2.2
      | _ => inT.any (fun q => nbeq q.1 (mI y).2.2.2.1 && nbeq q.2.1 i && nbeq q.2.2.1 b) && Nat.ble 1 (mI y).2.2.2.2.1 && Nat.ble 26 (mI y).2.2.2.2.2
    | .invokevirtual i => cvT.any (fun q => nbeq q.1 (mI y).2.2.2.1 && nbeq q.2.1 i && nbeq q.2.2.1 a) && Nat.ble ((mI a).2.2.2.2.1 + 1) (mI y).2.2.2.2.1 && Nat.ble (8 + ((mI a).2.1 + 11) + (mI a).2.2.2.2.2) (mI y).2.2.2.2.2
    | .ireturn => match (cn y).2.2 with
      | true => decide ((mI y).2.2.1 = some .boolean)
      | false => decide ((mI y).2.2.1 = some .int)
    | .lreturn => decide ((mI y).2.2.1 = some .long)
    | .areturn => decide ((mI y).2.2.1 = some (.object "ThreeGaps$Items"))
    | .return_ => decide ((mI y).2.2.1 = none)
    | _ => true
/-- how long an instruction is -/
def ilen (d : Nat) (I : Jvm.ClassFile.Instr) : Nat := match I with
  | .bipush _ => 2
  | .sipush _ => 3
  | .ldc _ => 2
  | .ldc_w _ => 3
  | .ldc2_w _ => 3
  | .iload _ => 2
  | .lload _ => 2
  | .aload _ => 2
  | .istore _ => 2
  | .lstore _ => 2
  | .astore _ => 2
  | .iinc _ _ => 3
  | .if_icmp _ _ => 3
  | .ifCond _ _ => 3
  | .goto _ => 3
  | .tableswitch _ _ _ _ => d
  | .lookupswitch _ _ => d
  | .getfield _ => 3
  | .putfield _ => 3
  | .getstatic _ => 3
  | .invokestatic _ => 3
  | .invokevirtual _ => 3
  | _ => 1
def chkD (cd : ByteArray) (y : Nat) (e : En) : Bool := decide (decode cd e.1 = .ok (e.2.1, ilen (e.2.2.1 - e.1) e.2.1)) && (nbeq e.2.2.1 (e.1 + ilen (e.2.2.1 - e.1) e.2.1) && chk y e)
