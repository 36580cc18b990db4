/-! WHAT IS CHECKED OF THE TABLES OF CODE, once for each method -/
def lenF (i : Instr) (len : Nat) : Nat := match i with
  | .bipush _ => 2
  | .iload _ => 2
  | .lload _ => 2
  | .aload _ => 2
  | .istore _ => 2
  | .lstore _ => 2
  | .ldc _ => 2
  | .newarray _ => 2
  | .sipush _ => 3
  | .getfield _ => 3
  | .putfield _ => 3
  | .getstatic _ => 3
  | .goto _ => 3
  | .ifCond _ _ => 3
  | .if_icmp _ _ => 3
  | .ifnull _ => 3
  | .ifnonnull _ => 3
  | .iinc _ _ => 3
  | .invokestatic _ => 3
  | .invokevirtual _ => 3
  | .invokespecial _ => 3
  | .new _ => 3
  | .anewarray _ => 3
  | .ldc_w _ => 3
  | .ldc2_w _ => 3
  | .tableswitch _ _ _ _ => len
  | .lookupswitch _ _ => len
  | _ => 1
def tgOk (pc : Nat) (off : Int) (ax : List Nat) : Bool := match ax with
  | t :: _ => decide ((pc : Int) + off = (t : Int))
  | [] => false
def lsOk (pc : Nat) : List (Int × Int) → List Nat → Bool
  | [], [] => true
  | (k, o) :: r, a :: t :: ts => decide (k = (a : Int)) && Nat.blt a 1000000 && decide ((pc : Int) + o = (t : Int)) && lsOk pc r ts
  | _, _ => false
def tsOk (pc : Nat) : List Int → List Nat → Bool
  | [], [] => true
  | o :: r, t :: ts => decide ((pc : Int) + o = (t : Int)) && tsOk pc r ts
  | _, _ => false
def isStat (y : Nat) : Bool := match nth YL y with
  | some q => q.2.2.2.2.1
  | none => false
def narg (y : Nat) : Nat := match nth YL y with
  | some q => q.2.2.2.2.2
  | none => 0
def rtY (y : Nat) : Nat := match nth MT y with
  | some q => match q.2.2.1 with
    | 4 => 1
    | r => r
  | none => 9
def ownY (y : Nat) : Nat := match nth MT y with
  | some q => q.1
  | none => 99
def axOk (own : Nat) (isI : Bool) (pc : Nat) (i : Instr) (ax : List Nat) (cI : Int32) (cL : Int64) : Bool := match i with
  | .iconst k => decide (Int32.ofInt k = cI)
  | .bipush k => decide ((Int8.ofInt k).toInt32 = cI)
  | .sipush k => decide ((Int16.ofInt k).toInt32 = cI)
  | .lconst k => decide (Int64.ofNat k.val = cL)
  | .iinc _ k => decide (Int32.ofInt k = cI)
  | .goto o => tgOk pc o ax
  | .ifCond _ o => tgOk pc o ax
  | .if_icmp _ o => tgOk pc o ax
  | .ifnull o => tgOk pc o ax
  | .ifnonnull o => tgOk pc o ax
  | .getfield ix => match ax with
    | ci :: j :: kd :: [] => Nat.beq kd (KD ci j) && FLT.any (fun q => Nat.beq q.1 own && Nat.beq q.2.1 ix && Nat.beq q.2.2.1 ci && Nat.beq q.2.2.2.1 j)
    | _ => false
  | .putfield ix => match ax with
    | ci :: j :: kd :: [] => Nat.beq kd (KD ci j) && FLT.any (fun q => Nat.beq q.1 own && Nat.beq q.2.1 ix && Nat.beq q.2.2.1 ci && Nat.beq q.2.2.2.1 j) && (!((TN ci j).2.2.2) || (isI && Nat.beq own ci))
    | _ => false
  | .ldc ix => match ax with
    | [] => CST.any (fun q => Nat.beq q.1 own && Nat.beq q.2.1 ix && decide (q.2.2.1 = cI))
    | j :: _ => Nat.beq own 4 && (match nth STL j with
      | some q => Nat.beq q.1 ix
      | none => false)
  | .ldc_w ix => CST.any (fun q => Nat.beq q.1 own && Nat.beq q.2.1 ix && decide (q.2.2.1 = cI))
  | .ldc2_w ix => CSL.any (fun q => Nat.beq q.1 own && Nat.beq q.2.1 ix && decide (q.2.2.1 = cL))
  | .getstatic ix => match ax with
    | j :: _ => Nat.beq j 100 && ((Nat.beq own 10 && Nat.beq ix 267) || (Nat.beq own 9 && Nat.beq ix 32))
    | _ => false
  | .new ix => match ax with
    | ci :: nf :: _ => Nat.beq nf (NN ci) && CLT.any (fun q => Nat.beq q.1 own && Nat.beq q.2.1 ix && Nat.beq q.2.2.1 ci)
    | _ => false
  | .newarray t => match ax with
    | k :: _ => match t with
      | .int => Nat.beq k 0
      | .boolean => Nat.beq k 1
      | .long => Nat.beq k 2
      | _ => false
    | _ => false
  | .anewarray ix => Nat.beq own 10 && Nat.beq ix 42
  | .invokestatic ix => match ax with
    | 2 :: b :: [] => BLT.any (fun q => Nat.beq q.1 own && Nat.beq q.2.1 ix && Nat.beq q.2.2.1 b) && (Nat.blt b 6 || Nat.beq b 9 || Nat.beq b 10)
    | 0 :: y :: n :: rt :: [] => MLT.any (fun q => Nat.beq q.1 own && Nat.beq q.2.1 ix && Nat.beq q.2.2.1 y) && isStat y && Nat.beq n (narg y) && Nat.beq rt (rtY y)
    | _ => false
  | .invokevirtual ix => match ax with
    | 2 :: b :: [] => BLT.any (fun q => Nat.beq q.1 own && Nat.beq q.2.1 ix && Nat.beq q.2.2.1 b) && (Nat.beq b 6 || Nat.beq b 7)
    | 1 :: y :: n :: rt :: ci :: [] => MLT.any (fun q => Nat.beq q.1 own && Nat.beq q.2.1 ix && Nat.beq q.2.2.1 y && Nat.beq q.2.2.2.1 0) && !(isStat y) && Nat.beq n (narg y) && Nat.beq rt (rtY y) && Nat.beq ci (ownY y) && Nat.blt ci 12 && !(decide ((YN y).name = "<init>"))
    | _ => false
  | .invokespecial ix => match ax with
    | 2 :: b :: [] => BLT.any (fun q => Nat.beq q.1 own && Nat.beq q.2.1 ix && Nat.beq q.2.2.1 b) && Nat.beq b 8
    | 1 :: y :: n :: rt :: ci :: [] => MLT.any (fun q => Nat.beq q.1 own && Nat.beq q.2.1 ix && Nat.beq q.2.2.1 y) && !(isStat y) && Nat.beq n (narg y) && Nat.beq rt 0 && Nat.beq (rtY y) 0 && Nat.beq ci (ownY y) && Nat.blt ci 12 && decide ((YN y).name = "<init>")
    | _ => false
  | .tableswitch d lo hi os => match ax with
    | t :: a :: ts => decide ((pc : Int) + d = (t : Int)) && decide (lo = (a : Int)) && Nat.blt a 1000000 && decide (hi = lo + (os.size : Int) - 1) && Nat.blt os.size 1000 && tsOk pc os.toList ts
    | _ => false
  | .lookupswitch d ps => match ax with
    | t :: ts => decide ((pc : Int) + d = (t : Int)) && (ps.toList.zip (ps.toList.drop 1)).all (fun q => decide (q.1.1 < q.2.1)) && lsOk pc ps.toList ts
    | _ => false
  | _ => true
def chk (own : Nat) (isI : Bool) (pc : Nat) (i : Instr) (len : Nat) (ax : List Nat) (cI : Int32) (cL : Int64) : Bool := Nat.beq len (lenF i len) && axOk own isI pc i ax cI cL
def gd (own : Nat) (isI : Bool) (cc : ByteArray) : List EN → Bool
  | [] => true
  | (pc, _, i, len, ax, cI, cL) :: is => decide (decode cc pc = .ok (i, len)) && chk own isI pc i len ax cI cL && (match is with
    | [] => true
    | e :: _ => Nat.beq e.1 (pc + len)) && gd own isI cc is
