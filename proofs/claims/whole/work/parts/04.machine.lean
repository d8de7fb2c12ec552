/-! The abstract machine: numbers are Ints, addresses are Ints (0: null, -1: the static row START, -2: the script, from 1 on: what the law made), a heap is a table of shapes and a function. -/
abbrev Vl : Type := Nat × Int
abbrev Hp : Type := (Int → Int × Int) × (Int × Int) × (Int → Int → Int)
abbrev AI : Type := Instr × Int × Int
abbrev Lc : Type := List (Nat × Vl)
def zK (S : Hp) (a : Int) : Int := (S.1 a).1
def zL (S : Hp) (a : Int) : Int := (S.1 a).2
def zN (S : Hp) : Int := S.2.1.1
def zT (S : Hp) : Int := S.2.1.2
def zG (S : Hp) (a i : Int) : Int := S.2.2 a i
def zS (S : Hp) (a i v : Int) : Hp := (S.1, S.2.1, fun b j => if b = a ∧ j = i then v else S.2.2 b j)
def zA (S : Hp) (k n : Int) : Hp := (fun b => if b = S.2.1.1 then (k, n) else S.1 b, (S.2.1.1 + 1, S.2.1.2), fun b j => if b = S.2.1.1 then 0 else S.2.2 b j)
/-- a row of n rows of k ints: the outer one first, then the inner ones -/
def zM (S : Hp) (n k : Int) : Hp := (fun b => if b = S.2.1.1 then (108, n) else if S.2.1.1 < b ∧ b ≤ S.2.1.1 + n then (101, k) else S.1 b, (S.2.1.1 + 1 + n, S.2.1.2), fun b j => if b = S.2.1.1 then (if 0 ≤ j ∧ j < n then S.2.1.1 + 1 + j else 0) else if S.2.1.1 < b ∧ b ≤ S.2.1.1 + n then 0 else S.2.2 b j)
def zC (S : Hp) (a sp b dp n : Int) : Hp := (S.1, S.2.1, fun c j => if c = b ∧ dp ≤ j ∧ j < dp + n then S.2.2 a (sp + (j - dp)) else S.2.2 c j)
/-- an exception was made: nothing is made behind it -/
def zU (S : Hp) : Hp := (S.1, (S.2.1.1, 0), S.2.2)
def w32 (x : Int) : Int := Int.bmod x 4294967296
def w64 (x : Int) : Int := Int.bmod x 18446744073709551616
def in32 (x : Int) : Prop := -2147483648 ≤ x ∧ x < 2147483648
def in64 (x : Int) : Prop := -9223372036854775808 ≤ x ∧ x < 9223372036854775808
def bAnd (x y : Int) : Int := (Int32.ofInt x &&& Int32.ofInt y).toInt
def bOr (x y : Int) : Int := (Int32.ofInt x ||| Int32.ofInt y).toInt
def bXor (x y : Int) : Int := (Int32.ofInt x ^^^ Int32.ofInt y).toInt
def lAnd (x y : Int) : Int := (Int64.ofInt x &&& Int64.ofInt y).toInt
def lOr (x y : Int) : Int := (Int64.ofInt x ||| Int64.ofInt y).toInt
def lXor (x y : Int) : Int := (Int64.ofInt x ^^^ Int64.ofInt y).toInt
def bShl (x y : Int) : Int := (Int32.ofInt x <<< (Int32.ofInt y &&& 31)).toInt
def bShr (x y : Int) : Int := (Int32.ofInt x >>> (Int32.ofInt y &&& 31)).toInt
def bUsh (x y : Int) : Int := ((Int32.ofInt x).toUInt32 >>> ((Int32.ofInt y).toUInt32 &&& Int32.toUInt32 31)).toInt32.toInt
def lShl (x y : Int) : Int := (Int64.ofInt x <<< ((Int32.ofInt y).toInt64 &&& 63)).toInt
def lUsh (x y : Int) : Int := ((Int64.ofInt x).toUInt64 >>> ((Int32.ofInt y).toInt64.toUInt64 &&& Int64.toUInt64 63)).toInt64.toInt
def lCmp (x y : Int) : Int := if x < y then -1 else if x = y then 0 else 1
def ct (v : Vl) : Nat := match v.1 with
  | 1 => 2
  | _ => 1
def lk : Lc → Nat → Option Vl
  | [], _ => none
  | q :: r, i => bif q.1 == i then some q.2 else lk r i
def up1 (ls : Lc) (i : Nat) (v : Vl) : Lc := (i, v) :: ls.filter (fun q => !(q.1 == i) && !(q.1 + 1 == i && ct q.2 == 2))
def up2 (ls : Lc) (i : Nat) (v : Vl) : Lc := (i, v) :: ls.filter (fun q => !(q.1 == i) && (!(q.1 == i + 1) && !(q.1 + 1 == i && ct q.2 == 2)))
def pk_ls (ls : Lc) (ks : List Nat) : Lc := ks.filterMap (fun k => ls[k]?)
def la : Nat → List Vl → Lc
  | _, [] => []
  | i, v :: r => (i, v) :: la (i + ct v) r
def sct : List Vl → Nat
  | [] => 0
  | v :: r => ct v + sct r
/-- what one instruction comes to: go on; a branch; a jump; a call; a return; a switch; a call that may throw, its answer to a row's place 0 -/
abbrev ZO : Type := (Lc × List Vl × Hp) ⊕ (Prop × Nat × Lc × List Vl × Hp) ⊕ (Nat × Lc × List Vl × Hp) ⊕ (Nat × List Vl × Lc × List Vl) ⊕ Vl ⊕ (Int × List (Int × Nat) × Nat × Lc × List Vl × Hp) ⊕ (Nat × List Vl × Int × Lc × List Vl)
abbrev ZR : Type := Option (Option Prop × ZO)
def oI (st : List Vl) (k : Int → List Vl → ZR) : ZR := match st with
  | (0, x) :: r => k x r
  | _ => none
def oL (st : List Vl) (k : Int → List Vl → ZR) : ZR := match st with
  | (1, x) :: r => k x r
  | _ => none
def oA (st : List Vl) (k : Int → List Vl → ZR) : ZR := match st with
  | (2, x) :: r => k x r
  | _ => none
def oT (t : Nat) (st : List Vl) (k : Int → List Vl → ZR) : ZR := match t with
  | 0 => oI st k
  | 1 => oL st k
  | 2 => oA st k
  | 3 => oI st k
  | _ => none
def oGo (ls : Lc) (st : List Vl) (S : Hp) : ZR := some (none, .inl (ls, st, S))
def oIf (P : Prop) (ls : Lc) (st : List Vl) (S : Hp) : ZR := some (some P, .inl (ls, st, S))
def oBr (c : Prop) (t : Int) (ls : Lc) (st : List Vl) (S : Hp) : ZR := some (none, .inr (.inl (c, t.toNat, ls, st, S)))
def oLd (t : Nat) (o : Option Vl) (ls : Lc) (st : List Vl) (S : Hp) : ZR := match o with
  | some (n, x) => bif n == t then oGo ls ((n, x) :: st) S else none
  | none => none
/-- the kind of a field: 0 int, 1 long, 2 reference, 3 boolean -/
def tg (t : Nat) : Nat := match t with
  | 3 => 0
  | n => n
def in01 (x : Int) : Prop := x = 0 ∨ x = 1
def oBi (f : Int → Int → Int) (ls : Lc) (st : List Vl) (S : Hp) : ZR := oI st fun y st => oI st fun x st => oGo ls ((0, f x y) :: st) S
def oBl (f : Int → Int → Int) (ls : Lc) (st : List Vl) (S : Hp) : ZR := oL st fun y st => oL st fun x st => oGo ls ((1, f x y) :: st) S
def cnd (c : Jvm.ClassFile.Cond) (x y : Int) : Prop := match c with
  | .eq => x = y
  | .ne => ¬ x = y
  | .lt => x < y
  | .ge => y ≤ x
  | .gt => y < x
  | .le => x ≤ y
def tkr (n : Nat) (st : List Vl) (acc : List Vl) : Option (List Vl × List Vl) := match n with
  | 0 => some (acc, st)
  | n + 1 => match st with
    | v :: r => tkr n r (v :: acc)
    | [] => none
def oCopy (k : Int) (ls : Lc) (st : List Vl) (S : Hp) : ZR := oI st fun n st => oI st fun dp st => oA st fun b st => oI st fun sp st => oA st fun a st => bif Nat.ble (sct st) 8 then oIf ((zK S a = k ∧ zK S b = k) ∧ (0 ≤ sp ∧ 0 ≤ dp ∧ 0 ≤ n) ∧ sp + n ≤ zL S a ∧ dp + n ≤ zL S b) ls st (zC S a sp b dp n) else none
