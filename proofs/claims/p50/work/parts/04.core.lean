abbrev zV : Type := Int32 ⊕ Int64 ⊕ (Nat × Nat)
abbrev zM : Type := (Nat → Nat → Nat → Int32) × (Nat → Nat → Nat → Int64)
abbrev zR : Type := Option (Int32 × Int64 × zM)
abbrev zL : Type := List (Option zV)
abbrev zC : Type := Nat → List zV → zM → zR
abbrev zKt : Type := Nat → zL → List zV → zM → zR
abbrev zE : Type := ClassFile.Instr × Nat × Nat × Int32 × Int64 × List (Int32 × Nat) × List Bool
abbrev zT : Type := Nat × List (List (Nat × zE)) × Nat × Nat
def zcb (b : Bool) (x y : zR) : zR := match b with
  | true => x
  | false => y
noncomputable def zgS : { f : Bool → zR → zR // ∀ b x, f b x = zcb b x none } := Classical.choice ⟨⟨fun b x => zcb b x none, fun _ _ => rfl⟩⟩
noncomputable def zgd (b : Bool) (x : zR) : zR := zgS.1 b x
theorem zgd_eq (b : Bool) (x : zR) : zgd b x = zcb b x none := zgS.2 b x
theorem zgd_t {b : Bool} {x : zR} (h : b = true) : zgd b x = x := by rw [zgd_eq, h]; rfl
theorem zgd_some {b : Bool} {x : zR} {r} (h : zgd b x = some r) : b = true ∧ x = some r := by
  rw [zgd_eq] at h
  cases b
  · cases h
  · exact ⟨rfl, h⟩
def zin (x : Int32) (n : Nat) : Bool := decide (0 ≤ x) && Nat.blt x.toNatClampNeg n
def z01 (x : Int32) : Bool := decide (x = 0) || decide (x = 1)
def zget : zL → Nat → Option zV
  | [], _ => none
  | v :: _, 0 => v
  | _ :: r, n + 1 => zget r n
def zput : zL → Nat → zV → zL
  | [], _, _ => []
  | _ :: r, 0, v => some v :: r
  | a :: r, 1, v => (match a with | some (.inr (.inl _)) => none | b => b) :: zput r 0 v
  | a :: r, n + 2, v => a :: zput r (n + 1) v
def zcut : zL → Nat → zL
  | [], _ => []
  | _ :: r, 0 => none :: r
  | a :: r, n + 1 => a :: zcut r n
def zmk : List Bool → zL → zL
  | [], l => l
  | _ :: _, [] => []
  | b :: m, v :: l => (bif b then v else none) :: zmk m l
def zwI (σ : zM) (g k i : Nat) (v : Int32) : zM := (fun g' k' i' => if g' = g ∧ k' = k ∧ i' = i then v else σ.1 g' k' i', σ.2)
def zwL (σ : zM) (g k i : Nat) (v : Int64) : zM := (σ.1, fun g' k' i' => if g' = g ∧ k' = k ∧ i' = i then v else σ.2 g' k' i')
def zpop : Nat → List zV → List zV → Option (List zV × List zV)
  | 0, st, acc => some (acc, st)
  | _ + 1, [], _ => none
  | n + 1, v :: st, acc => zpop n st (v :: acc)
def zas : List (Nat × zE) → Nat → Option zE
  | [], _ => none
  | (p, e) :: r, k => bif Nat.beq p k then some e else zas r k
def zfa : List (Nat × Nat × Nat) → Nat → Option (Nat × Nat)
  | [], _ => none
  | (p, e) :: r, k => bif Nat.beq p k then some e else zfa r k
def zma : List (Nat × Nat × Nat × Nat) → Nat → Option (Nat × Nat × Nat)
  | [], _ => none
  | (p, e) :: r, k => bif Nat.beq p k then some e else zma r k
def zsw (K : Nat → zR) (x : Int32) (df : Nat) : List (Int32 × Nat) → zR
  | [] => K df
  | (v, t) :: r => if x = v then K t else zsw K x df r
def zo1 (st : List zV) (f : Int32 → List zV → zR) : zR := match st with | .inl x :: r => f x r | _ => none
def zo2 (st : List zV) (f : Int32 → Int32 → List zV → zR) : zR := match st with | .inl y :: .inl x :: r => f y x r | _ => none
def zl1 (st : List zV) (f : Int64 → List zV → zR) : zR := match st with | .inr (.inl x) :: r => f x r | _ => none
def zl2 (st : List zV) (f : Int64 → Int64 → List zV → zR) : zR := match st with | .inr (.inl y) :: .inr (.inl x) :: r => f y x r | _ => none
def zli (st : List zV) (f : Int32 → Int64 → List zV → zR) : zR := match st with | .inl y :: .inr (.inl x) :: r => f y x r | _ => none
def zr1 (st : List zV) (f : Nat → Nat → List zV → zR) : zR := match st with | .inr (.inr (g, k)) :: r => f g k r | _ => none
def zir (st : List zV) (f : Int32 → Nat → Nat → List zV → zR) : zR := match st with | .inl i :: .inr (.inr (g, k)) :: r => f i g k r | _ => none
def ziir (st : List zV) (f : Int32 → Int32 → Nat → Nat → List zV → zR) : zR := match st with | .inl v :: .inl i :: .inr (.inr (g, k)) :: r => f v i g k r | _ => none
def zlir (st : List zV) (f : Int64 → Int32 → Nat → Nat → List zV → zR) : zR := match st with | .inr (.inl v) :: .inl i :: .inr (.inr (g, k)) :: r => f v i g k r | _ => none
def zvI (v : Option zV) (f : Int32 → zR) : zR := match v with | some (.inl x) => f x | _ => none
def zvL (v : Option zV) (f : Int64 → zR) : zR := match v with | some (.inr (.inl x)) => f x | _ => none
def zvR (v : Option zV) (f : Nat → Nat → zR) : zR := match v with | some (.inr (.inr (g, k))) => f g k | _ => none
def zkd (k : Nat) : Nat × Nat := zKD.getD k (9, 0)
def zed (k j : Nat) : Option (Option Nat × Nat) := (zED.getD k []).getD j none
def zfd (own i : Nat) : Option (Nat × Nat) := zfa (zFD.getD own []) i
def zmd (own i : Nat) : Option (Nat × Nat × Nat) := zma (zMD.getD own []) i
def zsd (own i : Nat) : Option Nat := (zfa (zSD.getD own []) i).map Prod.fst
def zret (rk : Nat) (x : Int32) : Bool := match rk with
  | 1 => true
  | 3 => z01 x
  | 4 => decide (0 ≤ x) && decide (x < 65536)
  | 5 => decide (x = 0)
  | _ => false
def zcal (rk nx : Nat) (K : zKt) (ls : zL) (rest : List zV) (x : Int32 × Int64 × zM) : zR := match rk with
  | 0 => K nx ls rest x.2.2
  | 2 => K nx ls (.inr (.inl x.2.1) :: rest) x.2.2
  | _ => K nx ls (.inl x.1 :: rest) x.2.2
def zrc (rc : Nat) (as : List zV) : Bool := match rc with
  | 0 => true
  | c + 1 => match as with
    | .inr (.inr (_, k)) :: _ => match zkd k with
      | (0, n) => Nat.beq n c
      | (6, _) => Nat.beq 16 c
      | _ => false
    | _ => false
def zsz : List zV → Nat
  | [] => 0
  | .inr (.inl _) :: r => zsz r + 2
  | _ :: r => zsz r + 1
def zslen (σ : zM) : Nat := (σ.1 0 91 0).toNatClampNeg
def zna : List zV → Bool
  | [] => true
  | .inr (.inr (_, k)) :: r => !(Nat.beq k 90) && zna r
  | _ :: r => zna r
def zvf : Bool → Nat → Bool
  | true, 0 => false
  | true, _ => true
  | false, 0 => true
  | false, _ => false
noncomputable def zinv (C : zC) (own nx i : Nat) (vf : Bool) (K : zKt) (ls : zL) (st : List zV) (σ : zM) : zR :=
  match zmd own i with
  | none => none
  | some (j, n, rc) => match zpop n st [] with
    | none => none
    | some (as, rest) => zcb (zrc rc as && (Nat.ble (zsz rest) 8 && (zna as && zvf vf rc))) ((C j as σ).bind (zcal (zMI.getD j (0, 9)).2 nx K ls rest)) none
noncomputable def zop (C : zC) (own rk : Nat) (K : zKt) (ls : zL) (st : List zV) (σ : zM) : zE → zR
  | (ins, nx, tg, c, d, sw, _) => match ins with
    | .iconst _ => K nx ls (.inl c :: st) σ
    | .bipush _ => K nx ls (.inl c :: st) σ
    | .sipush _ => K nx ls (.inl c :: st) σ
    | .ldc i => match zsd own i with
      | some j => K nx ls (.inr (.inr (j, 95)) :: st) σ
      | none => K nx ls (.inl c :: st) σ
    | .ldc_w _ => K nx ls (.inl c :: st) σ
    | .lconst _ => K nx ls (.inr (.inl d) :: st) σ
    | .ldc2_w _ => K nx ls (.inr (.inl d) :: st) σ
    | .iload_n a => zvI (zget ls a.val) fun x => K nx ls (.inl x :: st) σ
    | .iload a => zvI (zget ls a) fun x => K nx ls (.inl x :: st) σ
    | .lload_n a => zvL (zget ls a.val) fun x => K nx ls (.inr (.inl x) :: st) σ
    | .lload a => zvL (zget ls a) fun x => K nx ls (.inr (.inl x) :: st) σ
    | .aload_n a => zvR (zget ls a.val) fun g k => zcb (Nat.beq k 99) none (K nx ls (.inr (.inr (g, k)) :: st) σ)
    | .istore_n a => zo1 st fun x r => K nx (zput ls a.val (.inl x)) r σ
    | .istore a => zo1 st fun x r => K nx (zput ls a (.inl x)) r σ
    | .lstore_n a => zl1 st fun x r => K nx (zcut (zput ls a.val (.inr (.inl x))) (a.val + 1)) r σ
    | .iinc a _ => zvI (zget ls a) fun x => K nx (zput ls a (.inl (x + c))) st σ
    | .iadd => zo2 st fun y x r => K nx ls (.inl (x + y) :: r) σ
    | .isub => zo2 st fun y x r => K nx ls (.inl (x - y) :: r) σ
    | .imul => zo2 st fun y x r => K nx ls (.inl (x * y) :: r) σ
    | .idiv => zo2 st fun y x r => if y = 0 then none else K nx ls (.inl (x / y) :: r) σ
    | .irem => zo2 st fun y x r => if y = 0 then none else K nx ls (.inl (x - x / y * y) :: r) σ
    | .ineg => zo1 st fun x r => K nx ls (.inl (-x) :: r) σ
    | .iand => zo2 st fun y x r => K nx ls (.inl (x &&& y) :: r) σ
    | .ior => zo2 st fun y x r => K nx ls (.inl (x ||| y) :: r) σ
    | .ixor => zo2 st fun y x r => K nx ls (.inl (x ^^^ y) :: r) σ
    | .ishl => zo2 st fun y x r => K nx ls (.inl (x <<< (y &&& 31)) :: r) σ
    | .ishr => zo2 st fun y x r => K nx ls (.inl (x >>> (y &&& 31)) :: r) σ
    | .iushr => zo2 st fun y x r => K nx ls (.inl (x.toUInt32 >>> (y.toUInt32 &&& Int32.toUInt32 31)).toInt32 :: r) σ
    | .ladd => zl2 st fun y x r => K nx ls (.inr (.inl (x + y)) :: r) σ
    | .lmul => zl2 st fun y x r => K nx ls (.inr (.inl (x * y)) :: r) σ
    | .land => zl2 st fun y x r => K nx ls (.inr (.inl (x &&& y)) :: r) σ
    | .lor => zl2 st fun y x r => K nx ls (.inr (.inl (x ||| y)) :: r) σ
    | .lshl => zli st fun y x r => K nx ls (.inr (.inl (x <<< (y.toInt64 &&& 63))) :: r) σ
    | .lshr => zli st fun y x r => K nx ls (.inr (.inl (x >>> (y.toInt64 &&& 63))) :: r) σ
    | .lushr => zli st fun y x r => K nx ls (.inr (.inl (x.toUInt64 >>> (y.toInt64.toUInt64 &&& Int64.toUInt64 63)).toInt64) :: r) σ
    | .lcmp => zl2 st fun y x r => K nx ls (.inl (lg_cmp x y) :: r) σ
    | .i2l => zo1 st fun x r => K nx ls (.inr (.inl x.toInt64) :: r) σ
    | .l2i => zl1 st fun x r => K nx ls (.inl x.toInt32 :: r) σ
    | .i2b => zo1 st fun x r => K nx ls (.inl x.toInt8.toInt32 :: r) σ
    | .i2s => zo1 st fun x r => K nx ls (.inl x.toInt16.toInt32 :: r) σ
    | .i2c => zo1 st fun x r => K nx ls (.inl (x.toUInt32 % 65536).toInt32 :: r) σ
    | .dup => match st with
      | .inl x :: r => K nx ls (.inl x :: .inl x :: r) σ
      | .inr (.inr q) :: r => K nx ls (.inr (.inr q) :: .inr (.inr q) :: r) σ
      | _ => none
    | .pop => match st with
      | .inl _ :: r => K nx ls r σ
      | .inr (.inr _) :: r => K nx ls r σ
      | _ => none
    | .dup2 => zir st fun i g k r => K nx ls (.inl i :: .inr (.inr (g, k)) :: .inl i :: .inr (.inr (g, k)) :: r) σ
    | .goto _ => K tg ls st σ
    | .ifCond .eq _ => zo1 st fun x r => if x = 0 then K tg ls r σ else K nx ls r σ
    | .ifCond .ne _ => zo1 st fun x r => if x = 0 then K nx ls r σ else K tg ls r σ
    | .ifCond .lt _ => zo1 st fun x r => if x < 0 then K tg ls r σ else K nx ls r σ
    | .ifCond .ge _ => zo1 st fun x r => if x < 0 then K nx ls r σ else K tg ls r σ
    | .ifCond .gt _ => zo1 st fun x r => if 0 < x then K tg ls r σ else K nx ls r σ
    | .ifCond .le _ => zo1 st fun x r => if 0 < x then K nx ls r σ else K tg ls r σ
    | .if_icmp .eq _ => zo2 st fun y x r => if x = y then K tg ls r σ else K nx ls r σ
    | .if_icmp .ne _ => zo2 st fun y x r => if x = y then K nx ls r σ else K tg ls r σ
    | .if_icmp .lt _ => zo2 st fun y x r => if x < y then K tg ls r σ else K nx ls r σ
    | .if_icmp .ge _ => zo2 st fun y x r => if x < y then K nx ls r σ else K tg ls r σ
    | .if_icmp .gt _ => zo2 st fun y x r => if y < x then K tg ls r σ else K nx ls r σ
    | .if_icmp .le _ => zo2 st fun y x r => if y < x then K nx ls r σ else K tg ls r σ
    | .tableswitch _ _ _ _ => zo1 st fun x r => zsw (fun t => K t ls r σ) x tg sw
    | .lookupswitch _ _ => zo1 st fun x r => zsw (fun t => K t ls r σ) x tg sw
    | .getfield i => zr1 st fun g k r => match zfd own i with
      | none => none
      | some (ci, j) => match zkd k with
        | (0, n) => zcb (Nat.beq n ci) (match zed k j with
          | none => K nx ls (.inl (σ.1 g k j) :: r) σ
          | some (none, k2) => K nx ls (.inr (.inr (g, k2)) :: r) σ
          | some (some g2, k2) => K nx ls (.inr (.inr (g2, k2)) :: r) σ) none
        | (6, _) => zcb (Nat.beq 16 ci) (match j with
          | 0 => K nx ls (.inr (.inr (g, 96)) :: r) σ
          | _ => K nx ls (.inl 0 :: r) σ) none
        | _ => none
    | .putfield i => match st with
      | .inl x :: .inr (.inr (g, k)) :: r => match zfd own i with
        | none => none
        | some (ci, j) => match zkd k with
          | (0, n) => zcb (Nat.beq n ci && (zed k j).isNone) (zcb (zbl ci j) (zgd (z01 x) (K nx ls r (zwI σ g k j x))) (K nx ls r (zwI σ g k j x))) none
          | _ => none
      | _ => none
    | .getstatic i => match zfd own i with
      | some (17, 0) => K nx ls (.inl 1 :: st) σ
      | some (17, 1) => K nx ls (.inr (.inr (0, 99)) :: st) σ
      | _ => none
    | .iaload => zir st fun i g k r => match zkd k with
      | (1, n) => (match tg with
        | 0 => zgd (zin i n) (K nx ls (.inl (σ.1 g k i.toNatClampNeg) :: r) σ)
        | m + 1 => zcb (decide (i = nI m) && Nat.blt m n) (K nx ls (.inl (σ.1 g k m) :: r) σ) none)
      | (5, _) => zgd (zin i (zslen σ)) (K nx ls (.inl (σ.1 g k i.toNatClampNeg) :: r) σ)
      | _ => none
    | .laload => zir st fun i g k r => match zkd k with
      | (2, n) => zgd (zin i n) (K nx ls (.inr (.inl (σ.2 g k i.toNatClampNeg)) :: r) σ)
      | _ => none
    | .aaload => zir st fun i _ k r => match zkd k with
      | (3, n) => zgd (zin i n) (K nx ls (.inr (.inr (i.toNatClampNeg, k + 1)) :: r) σ)
      | (4, n) => zgd (zin i n) (K nx ls (.inr (.inr (i.toNatClampNeg, k + 1)) :: r) σ)
      | _ => none
    | .baload => zir st fun i g k r => match zkd k with
      | (7, _) => zgd (zin i (zSL.getD g []).length) (K nx ls (.inl ((zSL.getD g []).getD i.toNatClampNeg 0) :: r) σ)
      | _ => none
    | .iastore => ziir st fun v i g k r => match zkd k with
      | (1, n) => (match tg with
        | 0 => zgd (zin i n) (K nx ls r (zwI σ g k i.toNatClampNeg v))
        | m + 1 => zcb (decide (i = nI m) && Nat.blt m n) (K nx ls r (zwI σ g k m v)) none)
      | _ => none
    | .lastore => zlir st fun v i g k r => match zkd k with
      | (2, n) => zgd (zin i n) (K nx ls r (zwL σ g k i.toNatClampNeg v))
      | _ => none
    | .arraylength => zr1 st fun g k r => match zkd k with
      | (1, n) => K nx ls (.inl (nI n) :: r) σ
      | (5, _) => K nx ls (.inl (σ.1 0 91 0) :: r) σ
      | (7, _) => K nx ls (.inl (nI (zSL.getD g []).length) :: r) σ
      | _ => none
    | .invokevirtual i => zinv C own nx i true K ls st σ
    | .invokestatic i => zinv C own nx i false K ls st σ
    | .ireturn => match st with
      | [.inl x] => (match rk with
        | 1 => some (x, 0, σ)
        | _ => zgd (zret rk x) (some (x, 0, σ)))
      | _ => none
    | .lreturn => match st with
      | [.inr (.inl x)] => zcb (Nat.beq rk 2) (some (0, x, σ)) none
      | _ => none
    | .return_ => match st with
      | [] => zcb (Nat.beq rk 0) (some (0, 0, σ)) none
      | _ => none
    | _ => none
noncomputable def zst (C : zC) (T : zT) (K : zKt) (pc : Nat) (ls : zL) (st : List zV) (σ : zM) : zR :=
  match zas (T.2.1.getD (pc / 32) []) pc with
  | none => none
  | some e => zop C T.1 T.2.2.1 K (zmk e.2.2.2.2.2.2 ls) st σ e
noncomputable def zrF (C : zC) (T : zT) : Nat → zKt
  | 0 => fun _ _ _ _ => none
  | n + 1 => zst C T (zrF C T n)
noncomputable def zrun (C : zC) (T : zT) : zKt := fun pc ls st σ =>
  @dite zR (∃ r, ∃ n, zrF C T n pc ls st σ = some r) (Classical.propDecidable _) (fun h => some (Classical.choose h)) (fun _ => none)
noncomputable def zit (C : zC) (T : zT) (cuts : List Nat) : Nat → zKt
  | 0 => zrun C T
  | n + 1 => fun pc ls st σ => zcb (cuts.any (Nat.beq pc)) (zrun C T pc ls st σ) (zst C T (zit C T cuts n) pc ls st σ)
