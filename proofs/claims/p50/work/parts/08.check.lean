def zkc (own i : Nat) : Option Int32 := (zKC.find? fun q => Nat.beq q.1 own && Nat.beq q.2.1 i).map fun q => q.2.2
def zkl (own i : Nat) : Option Int64 := (zKL.find? fun q => Nat.beq q.1 own && Nat.beq q.2.1 i).map fun q => q.2.2
def zsk (pc : Nat) : Int → List (Int32 × Nat) → List Int → Bool
  | _, [], [] => true
  | lo, (v, t) :: r, o :: os => decide (v.toInt = lo) && decide ((pc : Int) + o = (t : Int)) && zsk pc (lo + 1) r os
  | _, _, _ => false
def zsl (pc : Nat) : List (Int32 × Nat) → List (Int × Int) → Bool
  | [], [] => true
  | (v, t) :: r, (a, o) :: os => decide (v.toInt = a) && decide ((pc : Int) + o = (t : Int)) && zsl pc r os
  | _, _ => false
def zck1 (own nL pc : Nat) : zE → Bool
  | (ins, nx, tg, c, d, sw, _) => match ins with
    | .iconst n => decide (Int32.ofInt n = c) && Nat.beq nx (pc + 1)
    | .bipush n => decide ((Int8.ofInt n).toInt32 = c) && Nat.beq nx (pc + 2)
    | .sipush n => decide ((Int16.ofInt n).toInt32 = c) && Nat.beq nx (pc + 3)
    | .ldc i => ((zsd own i).isSome || decide (zkc own i = some c)) && Nat.beq nx (pc + 2)
    | .ldc_w i => decide (zkc own i = some c) && Nat.beq nx (pc + 3)
    | .lconst n => decide (Int64.ofNat n.val = d) && Nat.beq nx (pc + 1)
    | .ldc2_w i => decide (zkl own i = some d) && Nat.beq nx (pc + 3)
    | .iload _ => Nat.beq nx (pc + 2)
    | .lload _ => Nat.beq nx (pc + 2)
    | .istore_n a => Nat.blt a.val nL && Nat.beq nx (pc + 1)
    | .istore a => Nat.blt a nL && Nat.beq nx (pc + 2)
    | .lstore_n a => Nat.blt (a.val + 1) nL && Nat.beq nx (pc + 1)
    | .iinc a n => decide (Int32.ofInt n = c) && (Nat.blt a nL && Nat.beq nx (pc + 3))
    | .goto o => decide ((pc : Int) + o = (tg : Int)) && Nat.beq nx (pc + 3)
    | .ifCond _ o => decide ((pc : Int) + o = (tg : Int)) && Nat.beq nx (pc + 3)
    | .if_icmp _ o => decide ((pc : Int) + o = (tg : Int)) && Nat.beq nx (pc + 3)
    | .tableswitch df lo hi os => decide ((pc : Int) + df = (tg : Int)) && (decide (hi = lo + (os.toList.length : Int) - 1) && zsk pc lo sw os.toList)
    | .lookupswitch df ps => decide ((pc : Int) + df = (tg : Int)) && ((ps.toList.zip (ps.toList.drop 1)).all (fun (a, next) => a.1 < next.1) && zsl pc sw ps.toList)
    | .getfield _ => Nat.beq nx (pc + 3)
    | .putfield _ => Nat.beq nx (pc + 3)
    | .getstatic _ => Nat.beq nx (pc + 3)
    | .invokevirtual _ => Nat.beq nx (pc + 3)
    | .invokestatic _ => Nat.beq nx (pc + 3)
    | _ => Nat.beq nx (pc + 1)
def zck (b : ByteArray) (own nL : Nat) (q : Nat × zE) : Bool := decide (decode b q.1 = .ok (q.2.1, q.2.2.1 - q.1)) && zck1 own nL q.1 q.2
def zckM (b : ByteArray) (T : zT) : Bool := T.2.1.all fun ch => ch.all fun q => match q.2.1 with
  | .new _ => true
  | .invokespecial _ => true
  | .astore_n _ => true
  | .athrow => true
  | _ => zck b T.1 T.2.2.2 q
def zrt (rk : Nat) : Option (Option FieldType) := match rk with
  | 0 => some none
  | 1 => some (some .int)
  | 2 => some (some .long)
  | 3 => some (some .boolean)
  | 4 => some (some .char)
  | 5 => some (some .byte)
  | _ => none
