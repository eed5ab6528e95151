abbrev yW : Type := Int32 ⊕ Option Nat
abbrev yC : Type := Nat × Nat × List yW × (Nat → Int32)
abbrev yE : Type := Nat × ClassFile.Instr × Nat × Int32 × Nat
def yas : List yE → Nat → Option (ClassFile.Instr × Nat × Int32 × Nat)
  | [], _ => none
  | (p, e) :: r, k => bif Nat.beq p k then some e else yas r k
def ycb {α : Type} (b : Bool) (x : Option α) : Option α := match b with
  | true => x
  | false => none
def ydf (ci : Nat) : List yW := (List.range (zNF ci)).map fun j => match zty ci j with
  | .int => .inl 0
  | .boolean => .inl 0
  | _ => .inr none
def yfits (ty : FieldType) : yW → Bool
  | .inl _ => decide (ty = .int)
  | .inr (some _) => match ty with
    | .object _ => true
    | .array _ => true
    | _ => false
  | .inr none => false
def yLim (j : Nat) : Nat × Nat := yLM.getD j (0, 0)
def yMN (t n k h : Nat) : List yC := (t + 2, n, (List.range n).map (fun q => Sum.inr (some (h + 1 + q))), fun _ => 0) :: List.replicate n (t, k, [], fun _ => 0)
def yAR (n : Nat) : yC := (1, n, [], fun _ => 0)
def yOB (ci : Nat) : yC := (0, ci, ydf ci, fun _ => 0)
abbrev yKt : Type := Nat → Option Int32 → List yW → List yC → Nat → Nat → Option (List yC)
def yop (C : Nat → Nat → List yC → Option (List yC)) (j this pc : Nat) (K : yKt) (l1 : Option Int32) (st : List yW) (hs : List yC) (cs ss : Nat) : ClassFile.Instr × Nat × Int32 × Nat → Option (List yC)
  | (ins, len, c, tg) => match ins with
    | .aload_n a => ycb (Nat.beq a.val 0) (K (pc + len) l1 (.inr (some this) :: st) hs cs ss)
    | .iconst _ => K (pc + len) l1 (.inl c :: st) hs cs ss
    | .bipush _ => K (pc + len) l1 (.inl c :: st) hs cs ss
    | .sipush _ => K (pc + len) l1 (.inl c :: st) hs cs ss
    | .newarray .int => match st with
      | .inl n :: r => ycb (decide (0 ≤ n) && (Nat.ble n.toNatClampNeg 1000 && (Nat.ble (cs + 1) (yLim j).1 && Nat.ble (ss + n.toNatClampNeg) (yLim j).2))) (K (pc + len) l1 (.inr (some hs.length) :: r) (hs ++ [yAR n.toNatClampNeg]) (cs + 1) (ss + n.toNatClampNeg))
      | _ => none
    | .multianewarray i 2 => match st, yMA.find? (fun q => Nat.beq q.1 j && Nat.beq q.2.1 i) with
      | .inl k :: .inl n :: r, some (_, _, t) => ycb (decide (0 ≤ n) && (decide (0 ≤ k) && (Nat.ble n.toNatClampNeg 1000 && (Nat.ble k.toNatClampNeg 1000 && (Nat.ble (cs + (1 + n.toNatClampNeg)) (yLim j).1 && Nat.ble (ss + (n.toNatClampNeg + n.toNatClampNeg * k.toNatClampNeg)) (yLim j).2)))))
          (K (pc + len) l1 (.inr (some hs.length) :: r) (hs ++ yMN t n.toNatClampNeg k.toNatClampNeg hs.length) (cs + (1 + n.toNatClampNeg)) (ss + (n.toNatClampNeg + n.toNatClampNeg * k.toNatClampNeg)))
      | _, _ => none
    | .new i => match yNW.find? (fun q => Nat.beq q.1 j && Nat.beq q.2.1 i) with
      | some (_, _, ci) => ycb (Nat.ble (cs + 1) (yLim j).1 && Nat.ble (ss + zNF ci) (yLim j).2) (K (pc + len) l1 (.inr (some hs.length) :: st) (hs ++ [yOB ci]) (cs + 1) (ss + zNF ci))
      | none => none
    | .dup => match st with
      | v :: r => K (pc + len) l1 (v :: v :: r) hs cs ss
      | [] => none
    | .invokespecial i => match st, yCL.find? (fun q => Nat.beq q.1 j && Nat.beq q.2.1 i) with
      | .inr (some o) :: r, some (_, _, none) => ycb (Nat.ble r.length 8) (K (pc + len) l1 r hs cs ss)
      | .inr (some o) :: r, some (_, _, some j2) => ycb (Nat.ble r.length 8 && (Nat.ble (cs + (yLim j2).1) (yLim j).1 && Nat.ble (ss + (yLim j2).2) (yLim j).2)) ((C j2 o hs).bind fun hs2 => K (pc + len) l1 r hs2 (cs + (yLim j2).1) (ss + (yLim j2).2))
      | _, _ => none
    | .putfield i => match st, yFD.find? (fun q => Nat.beq q.1 j && Nat.beq q.2.1 i) with
      | v :: .inr (some o) :: r, some (_, _, f) => match hs[o]? with
        | some (0, ci, fs, g) => ycb (Nat.beq ci j && (Nat.blt f fs.length && (Nat.blt f (zNF ci) && yfits (zty ci f) v))) (K (pc + len) l1 r (hs.set o (0, ci, fs.set f v, g)) cs ss)
        | _ => none
      | _, _ => none
    | .getfield i => match st, yFD.find? (fun q => Nat.beq q.1 j && Nat.beq q.2.1 i) with
      | .inr (some o) :: r, some (_, _, f) => match hs[o]? with
        | some (0, ci, fs, _) => match fs[f]? with
          | some v => ycb (Nat.beq ci j && Nat.blt f (zNF ci)) (K (pc + len) l1 (v :: r) hs cs ss)
          | none => none
        | _ => none
      | _, _ => none
    | .iastore => match st with
      | .inl x :: .inl i :: .inr (some o) :: r => match hs[o]? with
        | some (1, n, fs, g) => ycb (zin i n) (K (pc + len) l1 r (hs.set o (1, n, fs, fun q => if q = i.toNatClampNeg then x else g q)) cs ss)
        | _ => none
      | _ => none
    | .istore_n a => match st with
      | .inl x :: r => ycb (Nat.beq a.val 1) (K (pc + len) (some x) r hs cs ss)
      | _ => none
    | .iload_n a => match l1 with
      | some x => ycb (Nat.beq a.val 1) (K (pc + len) l1 (.inl x :: st) hs cs ss)
      | none => none
    | .iinc a _ => match l1 with
      | some x => ycb (Nat.beq a 1) (K (pc + len) (some (x + c)) st hs cs ss)
      | none => none
    | .if_icmp .ge _ => match st with
      | .inl y :: .inl x :: r => if x < y then K (pc + len) l1 r hs cs ss else K tg l1 r hs cs ss
      | _ => none
    | .goto _ => K tg l1 st hs cs ss
    | .return_ => match st with
      | [] => ycb (Nat.beq cs (yLim j).1 && Nat.beq ss (yLim j).2) (some hs)
      | _ => none
    | _ => none
def yst (C : Nat → Nat → List yC → Option (List yC)) (j this : Nat) (K : yKt) : yKt := fun pc l1 st hs cs ss => match yas (yIL.getD j []) pc with
  | none => none
  | some e => yop C j this pc K l1 st hs cs ss e
def yrF (C : Nat → Nat → List yC → Option (List yC)) (j this : Nat) : Nat → yKt
  | 0 => fun _ _ _ _ _ _ => none
  | n + 1 => yst C j this (yrF C j this n)
def yev : Nat → Nat → Nat → List yC → Option (List yC)
  | 0 => fun _ _ _ => none
  | d + 1 => fun j this hs => yrF (yev d) j this 300 0 none [] hs 0 0
