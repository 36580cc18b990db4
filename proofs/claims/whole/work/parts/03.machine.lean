/-! THE SMALL MACHINE: the bytecode of this claim over a heap of numbered cells. A cell is an object (class, its references by field), a row of numbers (kind 0 int, 1 boolean, 2 long; length) or a row of references. Numbers lie apart, in four functions. -/
abbrev AV : Type := Int32 ⊕ Int64 ⊕ Option Nat ⊕ Nat
abbrev vI (x : Int32) : AV := Sum.inl x
abbrev vL (x : Int64) : AV := Sum.inr (Sum.inl x)
abbrev vP (o : Option Nat) : AV := Sum.inr (Sum.inr (Sum.inl o))
abbrev vE (i : Nat) : AV := Sum.inr (Sum.inr (Sum.inr i))
abbrev SC : Type := (Nat × List (Option Nat)) ⊕ (Nat × Nat) ⊕ List (Option Nat)
abbrev cO (c : Nat) (r : List (Option Nat)) : SC := Sum.inl (c, r)
abbrev cN (t n : Nat) : SC := Sum.inr (Sum.inl (t, n))
abbrev cR (r : List (Option Nat)) : SC := Sum.inr (Sum.inr r)
abbrev DT : Type := (Nat → Nat → Int32) × (Nat → Nat → Int64) × (Nat → Nat → Int32) × (Nat → Nat → Int64)
abbrev HP : Type := List SC × DT
abbrev RR : Type := Option (Option AV × HP)
abbrev LL : Type := List (Nat × AV)
abbrev ST : Type := List AV
abbrev XS : Type := Nat × (Nat → Int32)
/-- an instruction: place, live locals where a run is cut, the instruction, its length, what its operands stand for, its constants -/
abbrev EN : Type := Nat × Option (List Nat) × Instr × Nat × List Nat × Int32 × Int64
def up2 {α : Type} (f : Nat → Nat → α) (n k : Nat) (v : α) : Nat → Nat → α := fun a b => if a = n then (if b = k then v else f a b) else f a b
def up1 {α : Type} (f : Nat → Nat → α) (n : Nat) (g : Nat → α) : Nat → Nat → α := fun a b => if a = n then g b else f a b
def gF (h : DT) (n k : Nat) : Int32 := h.1 n k
def gG (h : DT) (n k : Nat) : Int64 := h.2.1 n k
def gA (h : DT) (n k : Nat) : Int32 := h.2.2.1 n k
def gB (h : DT) (n k : Nat) : Int64 := h.2.2.2 n k
def sF (h : DT) (n k : Nat) (v : Int32) : DT := (up2 h.1 n k v, h.2)
def sG (h : DT) (n k : Nat) (v : Int64) : DT := (h.1, up2 h.2.1 n k v, h.2.2)
def sA (h : DT) (n k : Nat) (v : Int32) : DT := (h.1, h.2.1, up2 h.2.2.1 n k v, h.2.2.2)
def sB (h : DT) (n k : Nat) (v : Int64) : DT := (h.1, h.2.1, h.2.2.1, up2 h.2.2.2 n k v)
def zF (h : DT) (n : Nat) : DT := (up1 h.1 n (fun _ => 0), up1 h.2.1 n (fun _ => 0), h.2.2)
def zA (h : DT) (n : Nat) : DT := (h.1, h.2.1, up1 h.2.2.1 n (fun _ => 0), up1 h.2.2.2 n (fun _ => 0))
def yA (h : DT) (a b sp dp n : Nat) : DT := (h.1, h.2.1, up1 h.2.2.1 b (va_cpy (h.2.2.1 a) (h.2.2.1 b) sp dp n), h.2.2.2)
def yB (h : DT) (a b sp dp n : Nat) : DT := (h.1, h.2.1, h.2.2.1, up1 h.2.2.2 b (va_cpy (h.2.2.2 a) (h.2.2.2 b) sp dp n))
def nth {α : Type} : List α → Nat → Option α
  | [], _ => none
  | a :: _, 0 => some a
  | _ :: l, n + 1 => nth l n
def lk (i : Nat) : LL → Option AV
  | [] => none
  | q :: t => bif Nat.beq q.1 i then some q.2 else lk i t
def isL : AV → Bool
  | .inr (.inl _) => true
  | _ => false
/-- a local is stored; what lay there goes -/
def sl (w : Bool) (i : Nat) (v : AV) (L : LL) : LL := (i, v) :: L.filter (fun q => !(Nat.beq q.1 i) && (!(Nat.beq (q.1 + 1) i && isL q.2) && !(w && Nat.beq q.1 (i + 1))))
def rs : List Nat → LL → LL
  | [], _ => []
  | i :: t, L => match lk i L with
    | some v => (i, v) :: rs t L
    | none => rs t L
def jt (t : Nat) : List EN → List EN
  | [] => []
  | e :: r => bif Nat.beq e.1 t then e :: r else jt t r
-- values of a stack
def tI (S : ST) (k : Int32 → ST → RR) : RR := match S with
  | .inl x :: S => k x S
  | _ => none
def tL (S : ST) (k : Int64 → ST → RR) : RR := match S with
  | .inr (.inl x) :: S => k x S
  | _ => none
def tP (S : ST) (k : Option Nat → ST → RR) : RR := match S with
  | .inr (.inr (.inl x)) :: S => k x S
  | _ => none
def tN (S : ST) (k : Nat → ST → RR) : RR := match S with
  | .inr (.inr (.inl (some x))) :: S => k x S
  | _ => none
def t1 (S : ST) (k : AV → ST → RR) : RR := match S with
  | v :: S => bif isL v then none else k v S
  | _ => none
-- answers of calls
def bI (r : RR) (k : Int32 → HP → RR) : RR := match r with
  | some (some (.inl x), H) => k x H
  | _ => none
def bL (r : RR) (k : Int64 → HP → RR) : RR := match r with
  | some (some (.inr (.inl x)), H) => k x H
  | _ => none
def bP (r : RR) (k : Option Nat → HP → RR) : RR := match r with
  | some (some (.inr (.inr (.inl x))), H) => k x H
  | _ => none
def bV (r : RR) (k : HP → RR) : RR := match r with
  | some (none, H) => k H
  | _ => none
def i2 (S : ST) (f : Int32 → Int32 → Int32) (k : ST → RR) : RR := tI S fun y S => tI S fun x S => k (vI (f x y) :: S)
def l2 (S : ST) (f : Int64 → Int64 → Int64) (k : ST → RR) : RR := tL S fun y S => tL S fun x S => k (vL (f x y) :: S)
def ls2 (S : ST) (f : Int64 → Int32 → Int64) (k : ST → RR) : RR := tI S fun y S => tL S fun x S => k (vL (f x y) :: S)
/-- what changes the stack alone -/
def opS (i : Instr) (ax : List Nat) (cI : Int32) (cL : Int64) (S : ST) (k : ST → RR) : RR := match i with
  | .iconst _ => k (vI cI :: S)
  | .bipush _ => k (vI cI :: S)
  | .sipush _ => k (vI cI :: S)
  | .ldc _ => match ax with
    | [] => k (vI cI :: S)
    | j :: _ => k (vE j :: S)
  | .ldc_w _ => k (vI cI :: S)
  | .lconst _ => k (vL cL :: S)
  | .ldc2_w _ => k (vL cL :: S)
  | .aconst_null => k (vP none :: S)
  | .iadd => i2 S (fun x y => x + y) k
  | .isub => i2 S (fun x y => x - y) k
  | .imul => i2 S (fun x y => x * y) k
  | .iand => i2 S (fun x y => x &&& y) k
  | .ior => i2 S (fun x y => x ||| y) k
  | .ixor => i2 S (fun x y => x ^^^ y) k
  | .ishl => i2 S (fun x y => x <<< (y &&& 31)) k
  | .ishr => i2 S (fun x y => x >>> (y &&& 31)) k
  | .iushr => i2 S (fun x y => (x.toUInt32 >>> (y.toUInt32 &&& Int32.toUInt32 31)).toInt32) k
  | .ineg => tI S fun x S => k (vI (-x) :: S)
  | .idiv => tI S fun y S => tI S fun x S => if y = 0 then none else k (vI (x / y) :: S)
  | .irem => tI S fun y S => tI S fun x S => if y = 0 then none else k (vI (x - x / y * y) :: S)
  | .ladd => l2 S (fun x y => x + y) k
  | .lsub => l2 S (fun x y => x - y) k
  | .lmul => l2 S (fun x y => x * y) k
  | .lor => l2 S (fun x y => x ||| y) k
  | .land => l2 S (fun x y => x &&& y) k
  | .lshl => ls2 S (fun x y => x <<< (y.toInt64 &&& 63)) k
  | .lshr => ls2 S (fun x y => x >>> (y.toInt64 &&& 63)) k
  | .lneg => tL S fun x S => k (vL (-x) :: S)
  | .ldiv => tL S fun y S => tL S fun x S => if y = 0 then none else k (vL (x / y) :: S)
  | .lrem => tL S fun y S => tL S fun x S => if y = 0 then none else k (vL (x - x / y * y) :: S)
  | .i2l => tI S fun x S => k (vL x.toInt64 :: S)
  | .l2i => tL S fun x S => k (vI x.toInt32 :: S)
  | .lcmp => tL S fun y S => tL S fun x S => k (vI (lg_cmp x y) :: S)
  | .dup => t1 S fun v S => k (v :: v :: S)
  | .pop => t1 S fun _ S => k S
  | .dup2 => t1 S fun v S => t1 S fun w S => k (v :: w :: v :: w :: S)
  | _ => none
def ldI (i : Nat) (L : LL) (S : ST) (k : LL → ST → RR) : RR := match lk i L with
  | some (.inl x) => k L (vI x :: S)
  | _ => none
def ldL (i : Nat) (L : LL) (S : ST) (k : LL → ST → RR) : RR := match lk i L with
  | some (.inr (.inl x)) => k L (vL x :: S)
  | _ => none
def ldP (i : Nat) (L : LL) (S : ST) (k : LL → ST → RR) : RR := match lk i L with
  | some (.inr (.inr x)) => k L (.inr (.inr x) :: S)
  | _ => none
def stP (i : Nat) (L : LL) (S : ST) (k : LL → ST → RR) : RR := match S with
  | .inr (.inr x) :: S => k (sl false i (.inr (.inr x)) L) S
  | _ => none
/-- locals; n: how many there are -/
def opL (n : Nat) (i : Instr) (cI : Int32) (L : LL) (S : ST) (k : LL → ST → RR) : RR := match i with
  | .iload i => ldI i L S k
  | .iload_n i => ldI i.val L S k
  | .lload i => ldL i L S k
  | .lload_n i => ldL i.val L S k
  | .aload i => ldP i L S k
  | .aload_n i => ldP i.val L S k
  | .istore i => tI S fun x S => bif Nat.blt i n then k (sl false i (vI x) L) S else none
  | .istore_n i => tI S fun x S => bif Nat.blt i.val n then k (sl false i.val (vI x) L) S else none
  | .lstore i => tL S fun x S => bif Nat.blt (i + 1) n then k (sl true i (vL x) L) S else none
  | .lstore_n i => tL S fun x S => bif Nat.blt (i.val + 1) n then k (sl true i.val (vL x) L) S else none
  | .astore_n i => bif Nat.blt i.val n then stP i.val L S k else none
  | .iinc i _ => match lk i L with
    | some (.inl x) => bif Nat.blt i n then k (sl false i (vI (x + cI)) L) S else none
    | _ => none
  | _ => none
def oneC (n : Nat) (H : HP) (ci : Nat) (k : List (Option Nat) → RR) : RR := match nth H.1 n with
  | some (.inl (c, r)) => bif Nat.beq c ci then k r else none
  | _ => none
def oneN (n : Nat) (H : HP) (t : Nat) (k : Nat → RR) : RR := match nth H.1 n with
  | some (.inr (.inl (t', m))) => bif Nat.beq t' t then k m else none
  | _ => none
def oneR (n : Nat) (H : HP) (k : List (Option Nat) → RR) : RR := match nth H.1 n with
  | some (.inr (.inr r)) => k r
  | _ => none
/-- an index is in its row -/
def inb (i : Int32) (n : Nat) (k : Nat → RR) : RR := if i < 0 ∨ n ≤ i.toNatClampNeg then none else k i.toNatClampNeg
def putL {α : Type} : List α → Nat → α → List α
  | [], _, _ => []
  | _ :: l, 0, v => v :: l
  | a :: l, n + 1, v => a :: putL l n v
/-- a reference is of a cell that is there -/
def okP (o : Option Nat) (H : HP) : Bool := match o with
  | none => true
  | some n => match nth H.1 n with
    | some _ => true
    | none => false
def facN : List Int32 := [1, 1, 2, 6, 24, 120]
/-- the heap -/
def opH (X : XS) (i : Instr) (ax : List Nat) (S : ST) (H : HP) (k : ST → HP → RR) : RR := match i with
  | .getfield _ => match ax with
    | ci :: j :: kd :: _ => tN S fun n S => oneC n H ci fun r => match kd with
      | 0 => k (vI (gF H.2 n j) :: S) H
      | 1 => k (vL (gG H.2 n j) :: S) H
      | 2 => k (vP (r.getD j none) :: S) H
      | _ => k (vI (gF H.2 n j) :: S) H
    | _ => none
  | .putfield _ => match ax with
    | ci :: j :: kd :: _ => match kd with
      | 0 => tI S fun x S => tN S fun n S => oneC n H ci fun _ => k S (H.1, sF H.2 n j x)
      | 1 => tL S fun x S => tN S fun n S => oneC n H ci fun _ => k S (H.1, sG H.2 n j x)
      | 2 => tP S fun x S => tN S fun n S => oneC n H ci fun r => bif Nat.blt j r.length then k S (putL H.1 n (cO ci (putL r j x)), H.2) else none
      | _ => tI S fun x S => tN S fun n S => oneC n H ci fun _ => if x = 0 ∨ x = 1 then k S (H.1, sF H.2 n j x) else none
    | _ => none
  | .getstatic _ => match ax with
    | j :: _ => k (vE j :: S) H
    | _ => none
  | .iaload => match S with
    | .inl i :: .inr (.inr (.inr e)) :: S => bif Nat.beq e 100 then inb i 6 fun j => k (vI (facN.getD j 0) :: S) H else bif Nat.beq e 101 then inb i X.1 fun j => k (vI (X.2 j) :: S) H else none
    | S => tI S fun i S => tN S fun n S => oneN n H 0 fun m => inb i m fun j => k (vI (gA H.2 n j) :: S) H
  | .baload => tI S fun i S => tN S fun n S => oneN n H 1 fun m => inb i m fun j => k (vI (gA H.2 n j) :: S) H
  | .laload => tI S fun i S => tN S fun n S => oneN n H 2 fun m => inb i m fun j => k (vL (gB H.2 n j) :: S) H
  | .aaload => tI S fun i S => tN S fun n S => oneR n H fun r => inb i r.length fun j => k (vP (r.getD j none) :: S) H
  | .iastore => tI S fun x S => tI S fun i S => tN S fun n S => oneN n H 0 fun m => inb i m fun j => k S (H.1, sA H.2 n j x)
  | .bastore => tI S fun x S => tI S fun i S => tN S fun n S => oneN n H 1 fun m => inb i m fun j => k S (H.1, sA H.2 n j (vp_nar .boolean x))
  | .lastore => tL S fun x S => tI S fun i S => tN S fun n S => oneN n H 2 fun m => inb i m fun j => k S (H.1, sB H.2 n j x)
  | .aastore => tN S fun v S => tI S fun i S => tN S fun n S => oneR n H fun r => oneC v H 7 fun _ => inb i r.length fun j => k S (putL H.1 n (cR (putL r j (some v))), H.2)
  | .arraylength => match S with
    | .inr (.inr (.inr e)) :: S => bif Nat.beq e 101 then k (vI (Int32.ofNat X.1) :: S) H else none
    | _ => none
  | .new _ => match ax with
    | ci :: nf :: _ => k (vP (some H.1.length) :: S) (H.1 ++ [cO ci (List.replicate nf none)], zF H.2 H.1.length)
    | _ => none
  | .newarray _ => match ax with
    | t :: _ => tI S fun x S => if x < 0 ∨ 200000 < x then none else k (vP (some H.1.length) :: S) (H.1 ++ [cN t x.toNatClampNeg], zA H.2 H.1.length)
    | _ => none
  | .anewarray _ => tI S fun x S => if x < 0 ∨ 200000 < x then none else k (vP (some H.1.length) :: S) (H.1 ++ [cR (List.replicate x.toNatClampNeg none)], H.2)
  | _ => none
def texts0 : List (List Int32) := [[108, 101, 97, 110, 115], [104, 101, 97, 114, 115], [112, 101, 114, 115, 111, 110], [114, 97, 99, 107], [115, 119, 97, 112], [116, 117, 114, 110], [112, 114, 111, 112], [102, 114, 101, 101], [121, 101, 97, 114], [115, 116, 101, 112], [116, 111], [115, 101, 97, 116], [105, 102], [110, 111, 116], [97, 110, 100], [111, 114], [116, 104, 101, 110], [101, 108, 115, 101], [101, 110, 100], [119, 105, 110, 100], [119, 101, 105, 103, 104, 116], [119, 104, 111], [115, 108, 97, 110, 116], [108, 101, 102, 116], [114, 105, 103, 104, 116], [119, 111, 114, 100], [102, 114, 111, 109], [97, 116], [119, 105, 116, 104]]
def bitC (x0 : Int32) : Int32 :=
  let u : Int32 → Int32 → Int32 := fun x y => (x.toUInt32 >>> (y.toUInt32 &&& Int32.toUInt32 31)).toInt32
  let a := x0 - (u x0 1 &&& 1431655765)
  let b := (a &&& 858993459) + (u a 2 &&& 858993459)
  let c := (b + u b 4) &&& 252645135
  let d := c + u c 8
  let e := d + u d 16
  e &&& 63
def cpy (S : ST) (H : HP) (t : Nat) (f : DT → Nat → Nat → Nat → Nat → Nat → DT) (k : ST → HP → RR) : RR :=
  tI S fun n S => tI S fun dp S => tN S fun b S => tI S fun sp S => tN S fun a S => oneN a H t fun m0 => oneN b H t fun m1 =>
    if sp < 0 ∨ dp < 0 ∨ n < 0 ∨ m0 < sp.toNatClampNeg + n.toNatClampNeg ∨ m1 < dp.toNatClampNeg + n.toNatClampNeg then none
    else k S (H.1, f H.2 a b sp.toNatClampNeg dp.toNatClampNeg n.toNatClampNeg)
/-- methods of the library -/
def opJ (b : Nat) (S : ST) (H : HP) (k : ST → HP → RR) : RR := match b with
  | 0 => i2 S (fun x y => if x < y then y else x) fun S => k S H
  | 1 => i2 S (fun x y => if y < x then y else x) fun S => k S H
  | 2 => tI S fun x S => k (vI (if 0 ≤ x then x else 0 - x) :: S) H
  | 3 => tI S fun x S => k (vI (bitC x) :: S) H
  | 4 => cpy S H 0 yA k
  | 5 => cpy S H 2 yB k
  | 6 => match S with
    | .inr (.inr (.inr e)) :: S => bif Nat.blt e 29 then k (vI (Int32.ofNat (texts0.getD e []).length) :: S) H else none
    | _ => none
  | 7 => tI S fun i S => match S with
    | .inr (.inr (.inr e)) :: S => bif Nat.blt e 29 then inb i (texts0.getD e []).length fun j => k (vI ((texts0.getD e []).getD j 0) :: S) H else none
    | _ => none
  | 8 => tN S fun _ S => k S H
  | 9 => l2 S (fun x y => if y < x then x else y) fun S => k S H
  | 10 => l2 S (fun x y => if y < x then y else x) fun S => k S H
  | _ => none
def cat1 : AV → Nat
  | .inr (.inl _) => 2
  | _ => 1
def words : ST → Nat
  | [] => 0
  | v :: S => cat1 v + words S
/-- the n upper ones of a stack, the lowest first -/
def popN : Nat → ST → List AV → (List AV → ST → RR) → RR
  | 0, S, acc, k => k acc S
  | n + 1, S, acc, k => match S with
    | v :: S => popN n S (v :: acc) k
    | [] => none
/-- a call of an own method: ax = [0, y, number of arguments, kind of answer] (static) or [1, y, arguments, kind, class of the receiver] -/
def opC (call : Nat → List AV → HP → RR) (ax : List Nat) (S : ST) (H : HP) (k : ST → HP → RR) : RR := match ax with
  | kd :: y :: n :: rt :: r => popN n S [] fun as S =>
      let go : List AV → ST → RR := fun as S => bif Nat.ble (words S) 8 then (match rt with
        | 0 => bV (call y as H) fun H => k S H
        | 1 => bI (call y as H) fun x H => k (vI x :: S) H
        | 2 => bL (call y as H) fun x H => k (vL x :: S) H
        | _ => bP (call y as H) fun x H => k (vP x :: S) H) else none
      match kd, r with
      | 0, _ => go as S
      | 1, ci :: _ => tN S fun q S => oneC q H ci fun _ => go (vP (some q) :: as) S
      | _, _ => none
  | _ => none
/-- a method's answer: rt 0 none, 1 int, 2 long, 3 reference, 4 boolean -/
def opR (rt : Nat) (i : Instr) (S : ST) (H : HP) : RR := match i with
  | .return_ => match rt, S with
    | 0, [] => some (none, H)
    | _, _ => none
  | .ireturn => match rt, S with
    | 1, [.inl x] => some (some (vI x), H)
    | 4, [.inl x] => if x = 0 ∨ x = 1 then some (some (vI x), H) else none
    | _, _ => none
  | .lreturn => match rt, S with
    | 2, [.inr (.inl x)] => some (some (vL x), H)
    | _, _ => none
  | .areturn => match rt, S with
    | 3, [.inr (.inr (.inl x))] => some (some (vP x), H)
    | _, _ => none
  | _ => none
/-- where a switch goes -/
def swT (x : Int32) (k : Nat → RR) (d : RR) : Nat → List Nat → RR
  | _, [] => d
  | lo, t :: r => if x = Int32.ofNat lo then k t else swT x k d (lo + 1) r
def lkT (x : Int32) (k : Nat → RR) (d : RR) : List Nat → RR
  | a :: t :: r => if x = Int32.ofNat a then k t else lkT x k d r
  | _ => d
/-- one instruction; go: how the rest goes on -/
def stp (X : XS) (call : Nat → List AV → HP → RR) (n rt : Nat) (go : List EN → LL → ST → HP → RR) (code is : List EN) (i : Instr) (ax : List Nat) (cI : Int32) (cL : Int64) (L : LL) (S : ST) (H : HP) : RR :=
  let jump : ST → RR := fun S => match ax with
    | t :: _ => go (jt t code) L S H
    | [] => none
  let next : ST → RR := fun S => go is L S H
  match i with
  | .goto _ => jump S
  | .ifCond .eq _ => tI S fun x S => if x = 0 then jump S else next S
  | .ifCond .ne _ => tI S fun x S => if x = 0 then next S else jump S
  | .ifCond .lt _ => tI S fun x S => if x < 0 then jump S else next S
  | .ifCond .ge _ => tI S fun x S => if 0 ≤ x then jump S else next S
  | .ifCond .gt _ => tI S fun x S => if 0 < x then jump S else next S
  | .ifCond .le _ => tI S fun x S => if x ≤ 0 then jump S else next S
  | .if_icmp .eq _ => tI S fun y S => tI S fun x S => if x = y then jump S else next S
  | .if_icmp .ne _ => tI S fun y S => tI S fun x S => if x = y then next S else jump S
  | .if_icmp .lt _ => tI S fun y S => tI S fun x S => if x < y then jump S else next S
  | .if_icmp .ge _ => tI S fun y S => tI S fun x S => if y ≤ x then jump S else next S
  | .if_icmp .gt _ => tI S fun y S => tI S fun x S => if y < x then jump S else next S
  | .if_icmp .le _ => tI S fun y S => tI S fun x S => if x ≤ y then jump S else next S
  | .ifnull _ => tP S fun o S => match o with
    | none => jump S
    | some _ => next S
  | .ifnonnull _ => tP S fun o S => match o with
    | none => next S
    | some _ => jump S
  | .tableswitch _ _ _ _ => match ax with
    | d :: lo :: ts => tI S fun x S => swT x (fun t => go (jt t code) L S H) (go (jt d code) L S H) lo ts
    | _ => none
  | .lookupswitch _ _ => match ax with
    | d :: ts => tI S fun x S => lkT x (fun t => go (jt t code) L S H) (go (jt d code) L S H) ts
    | _ => none
  | .invokestatic _ => match ax with
    | 2 :: b :: _ => bif Nat.ble (words S) 8 then opJ b S H (fun S H => go is L S H) else none
    | _ => opC call ax S H fun S H => go is L S H
  | .invokevirtual _ => match ax with
    | 2 :: b :: _ => bif Nat.ble (words S) 8 then opJ b S H (fun S H => go is L S H) else none
    | _ => opC call ax S H fun S H => go is L S H
  | .invokespecial _ => match ax with
    | 2 :: b :: _ => bif Nat.ble (words S) 8 then opJ b S H (fun S H => go is L S H) else none
    | _ => opC call ax S H fun S H => go is L S H
  | .ireturn => opR rt i S H
  | .lreturn => opR rt i S H
  | .areturn => opR rt i S H
  | .return_ => opR rt i S H
  | .iload _ => opL n i cI L S fun L S => go is L S H
  | .iload_n _ => opL n i cI L S fun L S => go is L S H
  | .lload _ => opL n i cI L S fun L S => go is L S H
  | .lload_n _ => opL n i cI L S fun L S => go is L S H
  | .aload _ => opL n i cI L S fun L S => go is L S H
  | .aload_n _ => opL n i cI L S fun L S => go is L S H
  | .istore _ => opL n i cI L S fun L S => go is L S H
  | .istore_n _ => opL n i cI L S fun L S => go is L S H
  | .lstore _ => opL n i cI L S fun L S => go is L S H
  | .lstore_n _ => opL n i cI L S fun L S => go is L S H
  | .astore_n _ => opL n i cI L S fun L S => go is L S H
  | .iinc _ _ => opL n i cI L S fun L S => go is L S H
  | .getfield _ => opH X i ax S H fun S H => go is L S H
  | .putfield _ => opH X i ax S H fun S H => go is L S H
  | .getstatic _ => opH X i ax S H fun S H => go is L S H
  | .iaload => opH X i ax S H fun S H => go is L S H
  | .baload => opH X i ax S H fun S H => go is L S H
  | .laload => opH X i ax S H fun S H => go is L S H
  | .aaload => opH X i ax S H fun S H => go is L S H
  | .iastore => opH X i ax S H fun S H => go is L S H
  | .bastore => opH X i ax S H fun S H => go is L S H
  | .lastore => opH X i ax S H fun S H => go is L S H
  | .aastore => opH X i ax S H fun S H => go is L S H
  | .arraylength => opH X i ax S H fun S H => go is L S H
  | .new _ => opH X i ax S H fun S H => go is L S H
  | .newarray _ => opH X i ax S H fun S H => go is L S H
  | .anewarray _ => opH X i ax S H fun S H => go is L S H
  | i => opS i ax cI cL S fun S => go is L S H
/-- n: locals; code: all of the method; then the fuel, whether a cut here is passed over, what is left of the code -/
def exm (X : XS) (call : Nat → List AV → HP → RR) (n rt : Nat) (code : List EN) : Nat → Bool → List EN → LL → ST → HP → (Nat → LL → ST → HP → RR) → RR
  | 0, _, _, _, _, _, _ => none
  | _ + 1, _, [], _, _, _, _ => none
  | f + 1, b, (pc, cut, i, _, ax, cI, cL) :: is, L, S, H, K =>
    match (bif b then none else cut) with
    | some live => K pc (rs live L) S H
    | none => stp X call n rt (fun is L S H => exm X call n rt code f false is L S H K) code is i ax cI cL L S H
/-- a method from a cut on -/
def rcm (X : XS) (call : Nat → List AV → HP → RR) (n rt : Nat) (code : List EN) : Nat → Nat → LL → ST → HP → RR
  | 0, _, _, _, _ => none
  | f + 1, pc, L, S, H => exm X call n rt code 5000 true (jt pc code) L S H (fun pc L S H => rcm X call n rt code f pc L S H)
def iniL : Nat → List AV → LL
  | _, [] => []
  | i, v :: t => (i, v) :: iniL (i + cat1 v) t
