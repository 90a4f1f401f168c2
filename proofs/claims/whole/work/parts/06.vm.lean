/-! The small machine: the same bytecode over a plain heap (kind, number, place) whose references never change. -/
abbrev PV : Type := Int32 ⊕ (Int64 ⊕ (Nat × Nat))
abbrev Hp : Type := (Nat → Nat → Nat → Int32) × ((Nat → Int64) × Nat)
abbrev Lc : Type := List (Option PV)
abbrev Sr : Type := (Nat × (Lc × (List PV × Hp))) ⊕ ((Nat × (List PV × (List PV × Nat))) ⊕ Option PV)
/-- a field: none an int, some none a long, some (some g) a reference -/
abbrev FD : Type := Option (Option (Nat → Nat × Nat))
def fI : FD := none
def fL : FD := some none
def fR (g : Nat → Nat × Nat) : FD := some (some g)
def rk (k : Nat) : FD := fR (fun _ => (k, 0))
def ftab : List (List FD) :=
  [[rk 10, fI, fI],
   [fR (fun i => (2, 2 * i)), fR (fun i => (2, 2 * i + 1))],
   [fR (fun i => (7, i)), fR (fun i => (8, i)), fR (fun i => (9, i)), fI],
   [rk 15, rk 16, rk 17, fI],
   [rk 13, rk 14, fI],
   [fR (fun _ => (1, 0)), fR (fun _ => (1, 1)), rk 0, rk 4, rk 3, rk 11, rk 12, fL],
   [fI, rk 18, fI, fI, rk 19, fI, fI, rk 20, rk 21, rk 22, rk 23, fI, rk 24, rk 25, fI, rk 26, rk 27, rk 28, fL, fI, fI, fI, fI, fI, fI, fI, fI, fI, fI, rk 29, rk 30]]
/-- an array: its sort (0 ints, 1 booleans, 2 references from a number on, 3 ints that nobody writes), how long -/
def atab : List (Nat × Nat) :=
  [(0, 40), (0, 40), (0, 40), (2, 14), (2, 2), (1, 2), (0, 64), (0, 6), (0, 6), (0, 6), (0, 6), (0, 64), (0, 8), (0, 121), (0, 242), (0, 242), (0, 3388), (0, 484), (1, 2), (0, 6), (0, 6), (0, 6), (0, 8), (0, 16)]
def fdOf (kd k : Nat) : Option FD := (ftab.getD kd [])[k]?
/-- which sort of array a kind is, and its length: kinds 7 .. 30, 31 the factorials, 32 the script -/
def arr (σ : Hp) (kd : Nat) : Option (Nat × Nat) := match kd with
  | 31 => some (3, 5)
  | 32 => some (3, σ.2.2)
  | 0 => none
  | 1 => none
  | 2 => none
  | 3 => none
  | 4 => none
  | 5 => none
  | 6 => none
  | _ => atab[kd - 7]?
def hset (f : Nat → Nat → Nat → Int32) (a b c : Nat) (v : Int32) : Nat → Nat → Nat → Int32 := fun x y z => if x = a ∧ y = b ∧ z = c then v else f x y z
def hrow (f : Nat → Nat → Nat → Int32) (a b : Nat) (g : Nat → Int32) : Nat → Nat → Nat → Int32 := fun x y z => if x = a ∧ y = b then g z else f x y z
def lset (f : Nat → Int64) (a : Nat) (v : Int64) : Nat → Int64 := fun x => if x = a then v else f x
def nx (pc : Nat) (ls : Lc) (stk : List PV) (σ : Hp) : Option Sr := some (.inl (pc, ls, stk, σ))
def catP (v : PV) : Nat := match v with
  | .inr (.inl _) => 2
  | _ => 1
/-- whether a place may be stored at: no long just ahead of it -/
def okst (ls : Lc) (a : Nat) : Bool := match a with
  | 0 => true
  | k + 1 => match ls[k]? with
    | some (some (.inr (.inl _))) => false
    | _ => true
def bIf (c : Bool) (t f : Option Sr) : Option Sr := match c with
  | true => t
  | false => f
def cmpI (c : Jvm.ClassFile.Cond) (x y : Int32) : Prop := match c with
  | .eq => x = y
  | .ne => ¬ x = y
  | .lt => x < y
  | .ge => y ≤ x
  | .gt => y < x
  | .le => x ≤ y
def cmpD (c : Jvm.ClassFile.Cond) (x y : Int32) : Decidable (cmpI c x y) := match c with
  | .eq => inferInstanceAs (Decidable (x = y))
  | .ne => inferInstanceAs (Decidable (¬ x = y))
  | .lt => inferInstanceAs (Decidable (x < y))
  | .ge => inferInstanceAs (Decidable (y ≤ x))
  | .gt => inferInstanceAs (Decidable (y < x))
  | .le => inferInstanceAs (Decidable (x ≤ y))
def jrem (x y : Int32) : Int32 := x - x / y * y
def jshl (x y : Int32) : Int32 := x <<< (y &&& 31)
def jshr (x y : Int32) : Int32 := x >>> (y &&& 31)
def jushr (x y : Int32) : Int32 := (x.toUInt32 >>> (y.toUInt32 &&& Int32.toUInt32 31)).toInt32
def jlrem (x y : Int64) : Int64 := x - x / y * y
/-- a boolean's int -/
def zOk (v : Int32) : Prop := v = 0 ∨ v = 1
def zOkD (v : Int32) : Decidable (zOk v) := inferInstanceAs (Decidable (v = 0 ∨ v = 1))
def inD (i : Int32) (n : Nat) : Decidable (vp_in i n) := inferInstanceAs (Decidable (¬ (i < 0 ∨ n ≤ i.toNatClampNeg)))
def xload (nxt : Nat) (t a : Nat) (ls : Lc) (stk : List PV) (σ : Hp) : Option Sr := match t, ls[a]? with
  | 0, some (some (.inl x)) => nx nxt ls (.inl x :: stk) σ
  | 1, some (some (.inr (.inl x))) => nx nxt ls (.inr (.inl x) :: stk) σ
  | 2, some (some (.inr (.inr x))) => nx nxt ls (.inr (.inr x) :: stk) σ
  | _, _ => none
def xstore (nxt : Nat) (t a : Nat) (ls : Lc) (stk : List PV) (σ : Hp) : Option Sr := match t, stk with
  | 0, .inl x :: r => bIf (okst ls a && Nat.blt a ls.length) (nx nxt (ls.set a (some (.inl x))) r σ) none
  | 1, .inr (.inl x) :: r => bIf (okst ls a && Nat.blt (a + 1) ls.length) (nx nxt ((ls.set a (some (.inr (.inl x)))).set (a + 1) none) r σ) none
  | 2, .inr (.inr x) :: r => bIf (okst ls a && Nat.blt a ls.length) (nx nxt (ls.set a (some (.inr (.inr x)))) r σ) none
  | _, _ => none
def xii (f : Int32 → Int32 → Int32) (nxt : Nat) (ls : Lc) (stk : List PV) (σ : Hp) : Option Sr := match stk with
  | .inl y :: .inl x :: r => nx nxt ls (.inl (f x y) :: r) σ
  | _ => none
def xll (f : Int64 → Int64 → Int64) (nxt : Nat) (ls : Lc) (stk : List PV) (σ : Hp) : Option Sr := match stk with
  | .inr (.inl y) :: .inr (.inl x) :: r => nx nxt ls (.inr (.inl (f x y)) :: r) σ
  | _ => none
def xdiv (f : Int32 → Int32 → Int32) (nxt : Nat) (ls : Lc) (stk : List PV) (σ : Hp) : Option Sr := match stk with
  | .inl y :: .inl x :: r => if y = 0 then none else nx nxt ls (.inl (f x y) :: r) σ
  | _ => none
def xldiv (f : Int64 → Int64 → Int64) (nxt : Nat) (ls : Lc) (stk : List PV) (σ : Hp) : Option Sr := match stk with
  | .inr (.inl y) :: .inr (.inl x) :: r => if y = 0 then none else nx nxt ls (.inr (.inl (f x y)) :: r) σ
  | _ => none
def xget (nxt a b : Nat) (ls : Lc) (stk : List PV) (σ : Hp) : Option Sr := match stk with
  | .inr (.inr (kd, ix)) :: r => bIf (Nat.beq kd a) (match fdOf a b with
    | some none => nx nxt ls (.inl (σ.1 kd ix b) :: r) σ
    | some (some none) => nx nxt ls (.inr (.inl (σ.2.1 kd)) :: r) σ
    | some (some (some g)) => nx nxt ls (.inr (.inr (g ix)) :: r) σ
    | none => none) none
  | _ => none
/-- the one boolean field -/
def isZ (a b : Nat) : Bool := Nat.beq a 6 && Nat.beq b 20
def xput (nxt a b : Nat) (ls : Lc) (stk : List PV) (σ : Hp) : Option Sr := match stk with
  | .inl v :: .inr (.inr (kd, ix)) :: r => bIf (Nat.beq kd a) (match fdOf a b with
    | some none => match isZ a b with
      | false => nx nxt ls r (hset σ.1 kd ix b v, σ.2)
      | true => @ite _ (zOk v) (zOkD v) (nx nxt ls r (hset σ.1 kd ix b v, σ.2)) none
    | _ => none) none
  | .inr (.inl v) :: .inr (.inr (kd, _)) :: r => bIf (Nat.beq kd a) (match fdOf a b with
    | some (some none) => nx nxt ls r (σ.1, lset σ.2.1 kd v, σ.2.2)
    | _ => none) none
  | _ => none
def xald (nxt : Nat) (ls : Lc) (stk : List PV) (σ : Hp) : Option Sr := match stk with
  | .inl i :: .inr (.inr (kd, ix)) :: r => match arr σ kd with
    | some (0, n) => @ite _ (vp_in i n) (inD i n) (nx nxt ls (.inl (σ.1 kd ix i.toNatClampNeg) :: r) σ) none
    | some (3, n) => @ite _ (vp_in i n) (inD i n) (nx nxt ls (.inl (σ.1 kd ix i.toNatClampNeg) :: r) σ) none
    | _ => none
  | _ => none
def xzld (nxt : Nat) (ls : Lc) (stk : List PV) (σ : Hp) : Option Sr := match stk with
  | .inl i :: .inr (.inr (kd, ix)) :: r => match arr σ kd with
    | some (1, n) => @ite _ (vp_in i n) (inD i n) (nx nxt ls (.inl (σ.1 kd ix i.toNatClampNeg) :: r) σ) none
    | _ => none
  | _ => none
/-- the Boths of an array of references begin at a number -/
def qb (kd : Nat) : Nat := match kd with
  | 10 => 2
  | _ => 16
def xqld (nxt : Nat) (ls : Lc) (stk : List PV) (σ : Hp) : Option Sr := match stk with
  | .inl i :: .inr (.inr (kd, _)) :: r => match arr σ kd with
    | some (2, n) => @ite _ (vp_in i n) (inD i n) (nx nxt ls (.inr (.inr (1, qb kd + i.toNatClampNeg)) :: r) σ) none
    | _ => none
  | _ => none
def xast (nxt : Nat) (ls : Lc) (stk : List PV) (σ : Hp) : Option Sr := match stk with
  | .inl v :: .inl i :: .inr (.inr (kd, ix)) :: r => match arr σ kd with
    | some (0, n) => @ite _ (vp_in i n) (inD i n) (nx nxt ls r (hset σ.1 kd ix i.toNatClampNeg v, σ.2)) none
    | _ => none
  | _ => none
def xzst (nxt : Nat) (ls : Lc) (stk : List PV) (σ : Hp) : Option Sr := match stk with
  | .inl v :: .inl i :: .inr (.inr (kd, ix)) :: r => match arr σ kd with
    | some (1, n) => @ite _ (vp_in i n ∧ zOk v) (@instDecidableAnd _ _ (inD i n) (zOkD v)) (nx nxt ls r (hset σ.1 kd ix i.toNatClampNeg v, σ.2)) none
    | _ => none
  | _ => none
def xalen (nxt : Nat) (ls : Lc) (stk : List PV) (σ : Hp) : Option Sr := match stk with
  | .inr (.inr (kd, _)) :: r => match arr σ kd with
    | some (3, n) => nx nxt ls (.inl (Int32.ofNat n) :: r) σ
    | _ => none
  | _ => none
def swT (x : Int32) (lo hi : Int) (sw : List Nat) (d : Nat) : Nat := if x.toInt < lo ∨ hi < x.toInt then d else sw.getD (x.toInt - lo).toNat d
def lkT (x : Int32) : List (Int × Int) → List Nat → Nat → Nat
  | (k, _) :: ps, t :: ts, d => if x.toInt = k then t else lkT x ps ts d
  | _, _, d => d
/-- ints laid from one array into another one -/
def cpyOk (sp dp n : Int32) (n0 n1 : Nat) : Prop := ¬ sp < 0 ∧ ¬ dp < 0 ∧ ¬ n < 0 ∧ sp.toNatClampNeg + n.toNatClampNeg ≤ n0 ∧ dp.toNatClampNeg + n.toNatClampNeg ≤ n1
def cpyD (sp dp n : Int32) (n0 n1 : Nat) : Decidable (cpyOk sp dp n n0 n1) := inferInstanceAs (Decidable (¬ sp < 0 ∧ ¬ dp < 0 ∧ ¬ n < 0 ∧ sp.toNatClampNeg + n.toNatClampNeg ≤ n0 ∧ dp.toNatClampNeg + n.toNatClampNeg ≤ n1))
def xcpy (nxt : Nat) (ls : Lc) (stk : List PV) (σ : Hp) : Option Sr := match stk with
  | .inl n :: .inl dp :: .inr (.inr (kd, ix)) :: .inl sp :: .inr (.inr (kd0, ix0)) :: r => match arr σ kd0, arr σ kd with
    | some (0, n0), some (0, n1) => @ite _ (cpyOk sp dp n n0 n1) (cpyD sp dp n n0 n1) (nx nxt ls r (hrow σ.1 kd ix (va_cpy (σ.1 kd0 ix0) (σ.1 kd ix) sp.toNatClampNeg dp.toNatClampNeg n.toNatClampNeg), σ.2)) none
    | _, _ => none
  | _ => none
def wds (l : List PV) : Nat := (l.map catP).sum
/-- a call: n values (the receiver among them); what lies below them has at most eight words -/
def xcall (nxt a n : Nat) (stk : List PV) : Option Sr := bIf (Nat.ble n stk.length && Nat.ble (wds (stk.drop n)) 8) (some (.inr (.inl (a, (stk.take n).reverse, stk.drop n, nxt)))) none
/-- one instruction; cn: for a method its number of values, the receiver's kind (9: none), whether its answer is a boolean -/
def xexec (cn : Nat → Nat × (Nat × Bool)) (y : Nat) (e : En) (ls : Lc) (stk : List PV) (σ : Hp) : Option Sr := match e with
  | (_, I, nxt, a, b, sw, v, l) => match I with
    | .iconst _ => nx nxt ls (.inl v :: stk) σ
    | .bipush _ => nx nxt ls (.inl v :: stk) σ
    | .sipush _ => nx nxt ls (.inl v :: stk) σ
    | .ldc _ => nx nxt ls (.inl v :: stk) σ
    | .ldc_w _ => nx nxt ls (.inl v :: stk) σ
    | .lconst _ => nx nxt ls (.inr (.inl l) :: stk) σ
    | .ldc2_w _ => nx nxt ls (.inr (.inl l) :: stk) σ
    | .iload _ => xload nxt 0 a ls stk σ
    | .iload_n _ => xload nxt 0 a ls stk σ
    | .lload _ => xload nxt 1 a ls stk σ
    | .lload_n _ => xload nxt 1 a ls stk σ
    | .aload _ => xload nxt 2 a ls stk σ
    | .aload_n _ => xload nxt 2 a ls stk σ
    | .istore _ => xstore nxt 0 a ls stk σ
    | .istore_n _ => xstore nxt 0 a ls stk σ
    | .lstore _ => xstore nxt 1 a ls stk σ
    | .lstore_n _ => xstore nxt 1 a ls stk σ
    | .astore _ => xstore nxt 2 a ls stk σ
    | .astore_n _ => xstore nxt 2 a ls stk σ
    | .iinc _ _ => match ls[a]? with
      | some (some (.inl x)) => bIf (okst ls a && Nat.blt a ls.length) (nx nxt (ls.set a (some (.inl (x + v)))) stk σ) none
      | _ => none
    | .iadd => xii HAdd.hAdd nxt ls stk σ
    | .isub => xii HSub.hSub nxt ls stk σ
    | .imul => xii HMul.hMul nxt ls stk σ
    | .iand => xii HAnd.hAnd nxt ls stk σ
    | .ior => xii HOr.hOr nxt ls stk σ
    | .ixor => xii HXor.hXor nxt ls stk σ
    | .ishl => xii jshl nxt ls stk σ
    | .ishr => xii jshr nxt ls stk σ
    | .iushr => xii jushr nxt ls stk σ
    | .idiv => xdiv HDiv.hDiv nxt ls stk σ
    | .irem => xdiv jrem nxt ls stk σ
    | .ineg => match stk with
      | .inl x :: r => nx nxt ls (.inl (-x) :: r) σ
      | _ => none
    | .ladd => xll HAdd.hAdd nxt ls stk σ
    | .lsub => xll HSub.hSub nxt ls stk σ
    | .lmul => xll HMul.hMul nxt ls stk σ
    | .land => xll HAnd.hAnd nxt ls stk σ
    | .lor => xll HOr.hOr nxt ls stk σ
    | .ldiv => xldiv HDiv.hDiv nxt ls stk σ
    | .lrem => xldiv jlrem nxt ls stk σ
    | .lushr => match stk with
      | .inl y :: .inr (.inl x) :: r => nx nxt ls (.inr (.inl ((x.toUInt64 >>> (y.toInt64.toUInt64 &&& Int64.toUInt64 63)).toInt64)) :: r) σ
      | _ => none
    | .lshl => match stk with
      | .inl y :: .inr (.inl x) :: r => nx nxt ls (.inr (.inl (x <<< (y.toInt64 &&& 63))) :: r) σ
      | _ => none
    | .i2l => match stk with
      | .inl x :: r => nx nxt ls (.inr (.inl x.toInt64) :: r) σ
      | _ => none
    | .l2i => match stk with
      | .inr (.inl x) :: r => nx nxt ls (.inl x.toInt32 :: r) σ
      | _ => none
    | .lcmp => match stk with
      | .inr (.inl y) :: .inr (.inl x) :: r => nx nxt ls (.inl (lg_cmp x y) :: r) σ
      | _ => none
    | .if_icmp c _ => match stk with
      | .inl y :: .inl x :: r => @ite _ (cmpI c x y) (cmpD c x y) (nx a ls r σ) (nx nxt ls r σ)
      | _ => none
    | .ifCond c _ => match stk with
      | .inl x :: r => @ite _ (cmpI c x 0) (cmpD c x 0) (nx a ls r σ) (nx nxt ls r σ)
      | _ => none
    | .goto _ => nx a ls stk σ
    | .tableswitch _ lo hi _ => match stk with
      | .inl x :: r => nx (swT x lo hi sw a) ls r σ
      | _ => none
    | .lookupswitch _ ps => match stk with
      | .inl x :: r => nx (lkT x ps.toList sw a) ls r σ
      | _ => none
    | .dup => match stk with
      | .inl x :: r => nx nxt ls (.inl x :: .inl x :: r) σ
      | .inr (.inr x) :: r => nx nxt ls (.inr (.inr x) :: .inr (.inr x) :: r) σ
      | _ => none
    | .dup2 => match stk with
      | .inl x :: .inr (.inr z) :: r => nx nxt ls (.inl x :: .inr (.inr z) :: .inl x :: .inr (.inr z) :: r) σ
      | _ => none
    | .pop => match stk with
      | .inl _ :: r => nx nxt ls r σ
      | _ => none
    | .getfield _ => xget nxt a b ls stk σ
    | .putfield _ => xput nxt a b ls stk σ
    | .getstatic _ => nx nxt ls (.inr (.inr (31, 0)) :: stk) σ
    | .iaload => xald nxt ls stk σ
    | .baload => xzld nxt ls stk σ
    | .aaload => xqld nxt ls stk σ
    | .iastore => xast nxt ls stk σ
    | .bastore => xzst nxt ls stk σ
    | .arraylength => xalen nxt ls stk σ
    | .invokestatic _ => match b with
      | 0 => xcall nxt a (cn a).1 stk
      | 1 => match stk with
        | .inl y :: .inl x :: r => bIf (Nat.ble (wds r) 8) (nx nxt ls (.inl (if x < y then y else x) :: r) σ) none
        | _ => none
      | 2 => match stk with
        | .inl y :: .inl x :: r => bIf (Nat.ble (wds r) 8) (nx nxt ls (.inl (if y < x then y else x) :: r) σ) none
        | _ => none
      | 3 => match stk with
        | .inl x :: r => bIf (Nat.ble (wds r) 8) (nx nxt ls (.inl (if 0 ≤ x then x else 0 - x) :: r) σ) none
        | _ => none
      | 4 => match stk with
        | _ :: _ :: _ :: _ :: _ :: r => bIf (Nat.ble (wds r) 8) (xcpy nxt ls stk σ) none
        | _ => none
      | _ => none
    | .invokevirtual _ => match stk.drop ((cn a).1 - 1) with
      | .inr (.inr (kd, _)) :: _ => bIf (Nat.beq kd (cn a).2.1) (xcall nxt a (cn a).1 stk) none
      | _ => none
    | .ireturn => match stk with
      | [.inl x] => match (cn y).2.2 with
        | false => some (.inr (.inr (some (.inl x))))
        | true => @ite _ (zOk x) (zOkD x) (some (.inr (.inr (some (.inl x))))) none
      | _ => none
    | .lreturn => match stk with
      | [.inr (.inl x)] => some (.inr (.inr (some (.inr (.inl x)))))
      | _ => none
    | .areturn => match stk with
      | [.inr (.inr x)] => some (.inr (.inr (some (.inr (.inr x)))))
      | _ => none
    | .return_ => match stk with
      | [] => some (.inr (.inr none))
      | _ => none
    | _ => none
def fetch (y pc : Nat) : Option En := (prog y).find? (fun e => Nat.beq e.1 pc)
def entA : List PV → Lc
  | [] => []
  | .inr (.inl x) :: vs => some (.inr (.inl x)) :: none :: entA vs
  | .inr (.inr x) :: vs => some (.inr (.inr x)) :: entA vs
  | .inl x :: vs => some (.inl x) :: entA vs
def ent (y : Nat) (vs : List PV) : Lc := entA vs ++ List.replicate ((mI y).2.1 - (entA vs).length) none
/-- the small machine: n steps are enough -/
def prun : Nat → Nat → Nat → Lc → List PV → Hp → Option (Option PV × Hp)
  | 0, _, _, _, _, _ => none
  | n + 1, y, pc, ls, stk, σ => match fetch y pc with
    | none => none
    | some e => match xexec cn y e ls stk σ with
      | none => none
      | some (.inl (pc', ls', stk', σ')) => prun n y pc' ls' stk' σ'
      | some (.inr (.inl (y', vs, rest, nxt))) => match Nat.ble (entA vs).length (mI y').2.1 with
        | false => none
        | true => match prun n y' 0 (ent y' vs) [] σ with
          | none => none
          | some (r, σ1) => prun n y nxt ls (r.toList ++ rest) σ1
      | some (.inr (.inr r)) => some (r, σ)
