theorem zkd_5 {k n : Nat} (h : zkd k = (5, n)) : k = 90 := by
  have hd : ∀ k, k < 98 → (zkd k).1 = 5 → k = 90 := by decide +kernel
  rcases Nat.lt_or_ge k 98 with q | q
  · exact hd k q (by rw [h])
  · rw [zkd_far q] at h
    cases h
def zge (b : Bool) (x : zR) : zR := zcb b x none
def ziq (C : zC) (own nx i : Nat) (vf : Bool) (K : zKt) (ls : zL) (st : List zV) (σ : zM) : zR :=
  match zmd own i with
  | none => none
  | some (j, n, rc) => match zpop n st [] with
    | none => none
    | some (as, rest) => zcb (zrc rc as && (Nat.ble (zsz rest) 8 && (zna as && zvf vf rc))) ((C j as σ).bind (zcal (zMI.getD j (0, 9)).2 nx K ls rest)) none
def zoq (C : zC) (own rk : Nat) (K : zKt) (ls : zL) (st : List zV) (σ : zM) : zE → zR
  | (ins, nx, tg, c, d, sw, _) => match ins with
    | .iconst _ => K nx ls (.inl c :: st) σ
    | .bipush _ => K nx ls (.inl c :: st) σ
    | .sipush _ => K nx ls (.inl c :: st) σ
    | .ldc i => match zsd own i with
      | some j => K nx ls (.inr (.inr (j, 95)) :: st) σ
      | none => K nx ls (.inl c :: st) σ
    | .ldc_w _ => K nx ls (.inl c :: st) σ
    | .lconst _ => K nx ls (.inr (.inl d) :: st) σ
    | .ldc2_w _ => K nx ls (.inr (.inl d) :: st) σ
    | .iload_n a => zvI (zget ls a.val) fun x => K nx ls (.inl x :: st) σ
    | .iload a => zvI (zget ls a) fun x => K nx ls (.inl x :: st) σ
    | .lload_n a => zvL (zget ls a.val) fun x => K nx ls (.inr (.inl x) :: st) σ
    | .lload a => zvL (zget ls a) fun x => K nx ls (.inr (.inl x) :: st) σ
    | .aload_n a => zvR (zget ls a.val) fun g k => zcb (Nat.beq k 99) none (K nx ls (.inr (.inr (g, k)) :: st) σ)
    | .istore_n a => zo1 st fun x r => K nx (zput ls a.val (.inl x)) r σ
    | .istore a => zo1 st fun x r => K nx (zput ls a (.inl x)) r σ
    | .lstore_n a => zl1 st fun x r => K nx (zcut (zput ls a.val (.inr (.inl x))) (a.val + 1)) r σ
    | .iinc a _ => zvI (zget ls a) fun x => K nx (zput ls a (.inl (x + c))) st σ
    | .iadd => zo2 st fun y x r => K nx ls (.inl (x + y) :: r) σ
    | .isub => zo2 st fun y x r => K nx ls (.inl (x - y) :: r) σ
    | .imul => zo2 st fun y x r => K nx ls (.inl (x * y) :: r) σ
    | .idiv => zo2 st fun y x r => if y = 0 then none else K nx ls (.inl (x / y) :: r) σ
    | .irem => zo2 st fun y x r => if y = 0 then none else K nx ls (.inl (x - x / y * y) :: r) σ
    | .ineg => zo1 st fun x r => K nx ls (.inl (-x) :: r) σ
    | .iand => zo2 st fun y x r => K nx ls (.inl (x &&& y) :: r) σ
    | .ior => zo2 st fun y x r => K nx ls (.inl (x ||| y) :: r) σ
    | .ixor => zo2 st fun y x r => K nx ls (.inl (x ^^^ y) :: r) σ
    | .ishl => zo2 st fun y x r => K nx ls (.inl (x <<< (y &&& 31)) :: r) σ
    | .ishr => zo2 st fun y x r => K nx ls (.inl (x >>> (y &&& 31)) :: r) σ
    | .iushr => zo2 st fun y x r => K nx ls (.inl (x.toUInt32 >>> (y.toUInt32 &&& Int32.toUInt32 31)).toInt32 :: r) σ
    | .ladd => zl2 st fun y x r => K nx ls (.inr (.inl (x + y)) :: r) σ
    | .lmul => zl2 st fun y x r => K nx ls (.inr (.inl (x * y)) :: r) σ
    | .land => zl2 st fun y x r => K nx ls (.inr (.inl (x &&& y)) :: r) σ
    | .lor => zl2 st fun y x r => K nx ls (.inr (.inl (x ||| y)) :: r) σ
    | .lshl => zli st fun y x r => K nx ls (.inr (.inl (x <<< (y.toInt64 &&& 63))) :: r) σ
    | .lshr => zli st fun y x r => K nx ls (.inr (.inl (x >>> (y.toInt64 &&& 63))) :: r) σ
    | .lushr => zli st fun y x r => K nx ls (.inr (.inl (x.toUInt64 >>> (y.toInt64.toUInt64 &&& Int64.toUInt64 63)).toInt64) :: r) σ
    | .lcmp => zl2 st fun y x r => K nx ls (.inl (lg_cmp x y) :: r) σ
    | .i2l => zo1 st fun x r => K nx ls (.inr (.inl x.toInt64) :: r) σ
    | .l2i => zl1 st fun x r => K nx ls (.inl x.toInt32 :: r) σ
    | .i2b => zo1 st fun x r => K nx ls (.inl x.toInt8.toInt32 :: r) σ
    | .i2s => zo1 st fun x r => K nx ls (.inl x.toInt16.toInt32 :: r) σ
    | .i2c => zo1 st fun x r => K nx ls (.inl (x.toUInt32 % 65536).toInt32 :: r) σ
    | .dup => match st with
      | .inl x :: r => K nx ls (.inl x :: .inl x :: r) σ
      | .inr (.inr q) :: r => K nx ls (.inr (.inr q) :: .inr (.inr q) :: r) σ
      | _ => none
    | .pop => match st with
      | .inl _ :: r => K nx ls r σ
      | .inr (.inr _) :: r => K nx ls r σ
      | _ => none
    | .dup2 => zir st fun i g k r => K nx ls (.inl i :: .inr (.inr (g, k)) :: .inl i :: .inr (.inr (g, k)) :: r) σ
    | .goto _ => K tg ls st σ
    | .ifCond .eq _ => zo1 st fun x r => if x = 0 then K tg ls r σ else K nx ls r σ
    | .ifCond .ne _ => zo1 st fun x r => if x = 0 then K nx ls r σ else K tg ls r σ
    | .ifCond .lt _ => zo1 st fun x r => if x < 0 then K tg ls r σ else K nx ls r σ
    | .ifCond .ge _ => zo1 st fun x r => if x < 0 then K nx ls r σ else K tg ls r σ
    | .ifCond .gt _ => zo1 st fun x r => if 0 < x then K tg ls r σ else K nx ls r σ
    | .ifCond .le _ => zo1 st fun x r => if 0 < x then K nx ls r σ else K tg ls r σ
    | .if_icmp .eq _ => zo2 st fun y x r => if x = y then K tg ls r σ else K nx ls r σ
    | .if_icmp .ne _ => zo2 st fun y x r => if x = y then K nx ls r σ else K tg ls r σ
    | .if_icmp .lt _ => zo2 st fun y x r => if x < y then K tg ls r σ else K nx ls r σ
    | .if_icmp .ge _ => zo2 st fun y x r => if x < y then K nx ls r σ else K tg ls r σ
    | .if_icmp .gt _ => zo2 st fun y x r => if y < x then K tg ls r σ else K nx ls r σ
    | .if_icmp .le _ => zo2 st fun y x r => if y < x then K nx ls r σ else K tg ls r σ
    | .tableswitch _ _ _ _ => zo1 st fun x r => zsw (fun t => K t ls r σ) x tg sw
    | .lookupswitch _ _ => zo1 st fun x r => zsw (fun t => K t ls r σ) x tg sw
    | .getfield i => zr1 st fun g k r => match zfd own i with
      | none => none
      | some (ci, j) => match zkd k with
        | (0, n) => zcb (Nat.beq n ci) (match zed k j with
          | none => K nx ls (.inl (σ.1 g k j) :: r) σ
          | some (none, k2) => K nx ls (.inr (.inr (g, k2)) :: r) σ
          | some (some g2, k2) => K nx ls (.inr (.inr (g2, k2)) :: r) σ) none
        | (6, _) => zcb (Nat.beq 16 ci) (match j with
          | 0 => K nx ls (.inr (.inr (g, 96)) :: r) σ
          | _ => K nx ls (.inl 0 :: r) σ) none
        | _ => none
    | .putfield i => match st with
      | .inl x :: .inr (.inr (g, k)) :: r => match zfd own i with
        | none => none
        | some (ci, j) => match zkd k with
          | (0, n) => zcb (Nat.beq n ci && (zed k j).isNone) (zcb (zbl ci j) (zge (z01 x) (K nx ls r (zwI σ g k j x))) (K nx ls r (zwI σ g k j x))) none
          | _ => none
      | _ => none
    | .getstatic i => match zfd own i with
      | some (17, 0) => K nx ls (.inl 1 :: st) σ
      | some (17, 1) => K nx ls (.inr (.inr (0, 99)) :: st) σ
      | _ => none
    | .iaload => zir st fun i g k r => match zkd k with
      | (1, n) => (match tg with
        | 0 => zge (zin i n) (K nx ls (.inl (σ.1 g k i.toNatClampNeg) :: r) σ)
        | m + 1 => zcb (decide (i = nI m) && Nat.blt m n) (K nx ls (.inl (σ.1 g k m) :: r) σ) none)
      | (5, _) => zge (zin i (zslen σ)) (K nx ls (.inl (σ.1 g k i.toNatClampNeg) :: r) σ)
      | _ => none
    | .laload => zir st fun i g k r => match zkd k with
      | (2, n) => zge (zin i n) (K nx ls (.inr (.inl (σ.2 g k i.toNatClampNeg)) :: r) σ)
      | _ => none
    | .aaload => zir st fun i _ k r => match zkd k with
      | (3, n) => zge (zin i n) (K nx ls (.inr (.inr (i.toNatClampNeg, k + 1)) :: r) σ)
      | (4, n) => zge (zin i n) (K nx ls (.inr (.inr (i.toNatClampNeg, k + 1)) :: r) σ)
      | _ => none
    | .baload => zir st fun i g k r => match zkd k with
      | (7, _) => zge (zin i (zSL.getD g []).length) (K nx ls (.inl ((zSL.getD g []).getD i.toNatClampNeg 0) :: r) σ)
      | _ => none
    | .iastore => ziir st fun v i g k r => match zkd k with
      | (1, n) => (match tg with
        | 0 => zge (zin i n) (K nx ls r (zwI σ g k i.toNatClampNeg v))
        | m + 1 => zcb (decide (i = nI m) && Nat.blt m n) (K nx ls r (zwI σ g k m v)) none)
      | _ => none
    | .lastore => zlir st fun v i g k r => match zkd k with
      | (2, n) => zge (zin i n) (K nx ls r (zwL σ g k i.toNatClampNeg v))
      | _ => none
    | .arraylength => zr1 st fun g k r => match zkd k with
      | (1, n) => K nx ls (.inl (nI n) :: r) σ
      | (5, _) => K nx ls (.inl (σ.1 0 91 0) :: r) σ
      | (7, _) => K nx ls (.inl (nI (zSL.getD g []).length) :: r) σ
      | _ => none
    | .invokevirtual i => ziq C own nx i true K ls st σ
    | .invokestatic i => ziq C own nx i false K ls st σ
    | .ireturn => match st with
      | [.inl x] => (match rk with
        | 1 => some (x, 0, σ)
        | _ => zge (zret rk x) (some (x, 0, σ)))
      | _ => none
    | .lreturn => match st with
      | [.inr (.inl x)] => zcb (Nat.beq rk 2) (some (0, x, σ)) none
      | _ => none
    | .return_ => match st with
      | [] => zcb (Nat.beq rk 0) (some (0, 0, σ)) none
      | _ => none
    | _ => none
def zsq (C : zC) (T : zT) (K : zKt) (pc : Nat) (ls : zL) (st : List zV) (σ : zM) : zR :=
  match zas (T.2.1.getD (pc / 32) []) pc with
  | none => none
  | some e => zoq C T.1 T.2.2.1 K (zmk e.2.2.2.2.2.2 ls) st σ e
def zrQ (C : zC) (T : zT) : Nat → zKt
  | 0 => fun _ _ _ _ => none
  | n + 1 => zsq C T (zrQ C T n)
section ZFE
variable {B : Nat → Bool}
def zAg (B : Nat → Bool) (σ τ : zM) : Prop := (∀ g k i, B k = true → τ.1 g k i = σ.1 g k i ∧ τ.2 g k i = σ.2 g k i) ∧ τ.1 0 91 0 = σ.1 0 91 0
theorem zAg_I {σ τ g k i v} (h : zAg B σ τ) : zAg B (zwI σ g k i v) (zwI τ g k i v) := by
  refine ⟨fun g' k' i' hk' => ⟨?_, (h.1 g' k' i' hk').2⟩, ?_⟩
  · show (if _ then _ else _) = (if _ then _ else _)
    rw [(h.1 g' k' i' hk').1]
  · show (if _ then _ else _) = (if _ then _ else _)
    rw [h.2]
theorem zAg_L {σ τ g k i v} (h : zAg B σ τ) : zAg B (zwL σ g k i v) (zwL τ g k i v) := by
  refine ⟨fun g' k' i' hk' => ⟨(h.1 g' k' i' hk').1, ?_⟩, h.2⟩
  show (if _ then _ else _) = (if _ then _ else _)
  rw [(h.1 g' k' i' hk').2]
theorem zAg_C {σ τ g k sp g2 k2 dp n} (hk : B k = true) (h : zAg B σ τ) : zAg B (zcop σ g k sp g2 k2 dp n) (zcop τ g k sp g2 k2 dp n) := by
  refine ⟨fun g' k' i' hk' => ⟨?_, (h.1 g' k' i' hk').2⟩, ?_⟩
  · show (if _ then _ else _) = (if _ then _ else _)
    rw [(h.1 g' k' i' hk').1, (h.1 g k _ hk).1]
  · show (if _ then _ else _) = (if _ then _ else _)
    rw [h.2, (h.1 g k _ hk).1]
def zFe (B : Nat → Bool) (F G : zKt → zR) : Prop := (∀ K, F K = none) ∨ (∃ x y : Int32 × Int64 × zM, (∀ K, F K = some x) ∧ (∀ K, G K = some y) ∧ y.1 = x.1 ∧ y.2.1 = x.2.1 ∧ zAg B x.2.2 y.2.2) ∨ (∃ pc ls st σ τ, zLl B ls ∧ zAl B st ∧ zAg B σ τ ∧ (∀ K, F K = K pc ls st σ) ∧ ∀ K, G K = K pc ls st τ)
theorem zFe_n {G : zKt → zR} : zFe B (fun _ => none) G := Or.inl fun _ => rfl
theorem zFe_e {a b σ τ} (h : zAg B σ τ) : zFe B (fun _ => some (a, b, σ)) (fun _ => some (a, b, τ)) := Or.inr (Or.inl ⟨_, _, fun _ => rfl, fun _ => rfl, rfl, rfl, h⟩)
theorem zFe_k {pc ls st σ τ} (hl : zLl B ls) (ha : zAl B st) (hs : zAg B σ τ) : zFe B (fun K => K pc ls st σ) (fun K => K pc ls st τ) := Or.inr (Or.inr ⟨pc, ls, st, σ, τ, hl, ha, hs, fun _ => rfl, fun _ => rfl⟩)
theorem zFe_kr {pc ls v v' r σ τ} (e : v' = v) (hl : zLl B ls) (ha : zAl B (v :: r)) (hs : zAg B σ τ) : zFe B (fun K => K pc ls (v :: r) σ) (fun K => K pc ls (v' :: r) τ) := by
  cases e
  exact zFe_k hl ha hs
theorem zFe_z {b : Bool} {F G F' G' : zKt → zR} (hF : zFe B F F') (hG : zFe B G G') : zFe B (fun K => zcb b (F K) (G K)) (fun K => zcb b (F' K) (G' K)) := by
  cases b
  · exact hG
  · exact hF
theorem zFe_g {b : Bool} {F F' : zKt → zR} (hF : zFe B F F') : zFe B (fun K => zge b (F K)) (fun K => zgd b (F' K)) := by
  simp only [zgd_eq]
  exact zFe_z hF zFe_n
theorem zFe_i {P : Prop} {h : Decidable P} {F G F' G' : zKt → zR} (hF : zFe B F F') (hG : zFe B G G') : zFe B (fun K => @ite _ P h (F K) (G K)) (fun K => @ite _ P h (F' K) (G' K)) := by
  by_cases q : P
  · simp only [if_pos q]; exact hF
  · simp only [if_neg q]; exact hG
theorem zFe_o1 {st} (ha : zAl B st) {f f' : zKt → Int32 → List zV → zR} (h : ∀ x r, zAl B r → zFe B (fun K => f K x r) (fun K => f' K x r)) : zFe B (fun K => zo1 st (f K)) (fun K => zo1 st (f' K)) := by
  rcases st with _ | ⟨v0, r0⟩
  · exact zFe_n
  rcases v0 with x0 | v0
  case inr => exact zFe_n
  exact h x0 r0 (zAt1 ha)
theorem zFe_o2 {st} (ha : zAl B st) {f f' : zKt → Int32 → Int32 → List zV → zR} (h : ∀ y x r, zAl B r → zFe B (fun K => f K y x r) (fun K => f' K y x r)) : zFe B (fun K => zo2 st (f K)) (fun K => zo2 st (f' K)) := by
  rcases st with _ | ⟨v0, r0⟩
  · exact zFe_n
  rcases v0 with x0 | v0
  case inr => exact zFe_n
  rcases r0 with _ | ⟨v1, r1⟩
  · exact zFe_n
  rcases v1 with x1 | v1
  case inr => exact zFe_n
  exact h x0 x1 r1 (zAt1 (zAt1 ha))
theorem zFe_l1 {st} (ha : zAl B st) {f f' : zKt → Int64 → List zV → zR} (h : ∀ x r, zAl B r → zFe B (fun K => f K x r) (fun K => f' K x r)) : zFe B (fun K => zl1 st (f K)) (fun K => zl1 st (f' K)) := by
  rcases st with _ | ⟨v0, r0⟩
  · exact zFe_n
  rcases v0 with v0 | v0
  · exact zFe_n
  rcases v0 with x0 | v0
  case inr => exact zFe_n
  exact h x0 r0 (zAt1 ha)
theorem zFe_l2 {st} (ha : zAl B st) {f f' : zKt → Int64 → Int64 → List zV → zR} (h : ∀ y x r, zAl B r → zFe B (fun K => f K y x r) (fun K => f' K y x r)) : zFe B (fun K => zl2 st (f K)) (fun K => zl2 st (f' K)) := by
  rcases st with _ | ⟨v0, r0⟩
  · exact zFe_n
  rcases v0 with v0 | v0
  · exact zFe_n
  rcases v0 with x0 | v0
  case inr => exact zFe_n
  rcases r0 with _ | ⟨v1, r1⟩
  · exact zFe_n
  rcases v1 with v1 | v1
  · exact zFe_n
  rcases v1 with x1 | v1
  case inr => exact zFe_n
  exact h x0 x1 r1 (zAt1 (zAt1 ha))
theorem zFe_li {st} (ha : zAl B st) {f f' : zKt → Int32 → Int64 → List zV → zR} (h : ∀ y x r, zAl B r → zFe B (fun K => f K y x r) (fun K => f' K y x r)) : zFe B (fun K => zli st (f K)) (fun K => zli st (f' K)) := by
  rcases st with _ | ⟨v0, r0⟩
  · exact zFe_n
  rcases v0 with x0 | v0
  case inr => exact zFe_n
  rcases r0 with _ | ⟨v1, r1⟩
  · exact zFe_n
  rcases v1 with v1 | v1
  · exact zFe_n
  rcases v1 with x1 | v1
  case inr => exact zFe_n
  exact h x0 x1 r1 (zAt1 (zAt1 ha))
theorem zFe_r1 {st} (ha : zAl B st) {f f' : zKt → Nat → Nat → List zV → zR} (h : ∀ g k r, B k = true → zAl B r → zFe B (fun K => f K g k r) (fun K => f' K g k r)) : zFe B (fun K => zr1 st (f K)) (fun K => zr1 st (f' K)) := by
  rcases st with _ | ⟨v0, r0⟩
  · exact zFe_n
  rcases v0 with v0 | v0
  · exact zFe_n
  rcases v0 with v0 | ⟨g, k⟩
  · exact zFe_n
  exact h g k r0 (zAh ha) (zAt1 ha)
theorem zFe_ir {st} (ha : zAl B st) {f f' : zKt → Int32 → Nat → Nat → List zV → zR} (h : ∀ i g k r, B k = true → zAl B r → zFe B (fun K => f K i g k r) (fun K => f' K i g k r)) : zFe B (fun K => zir st (f K)) (fun K => zir st (f' K)) := by
  rcases st with _ | ⟨v0, r0⟩
  · exact zFe_n
  rcases v0 with x0 | v0
  case inr => exact zFe_n
  rcases r0 with _ | ⟨v1, r1⟩
  · exact zFe_n
  rcases v1 with v1 | v1
  · exact zFe_n
  rcases v1 with v1 | ⟨g, k⟩
  · exact zFe_n
  exact h x0 g k r1 (zAh (zAt1 ha)) (zAt1 (zAt1 ha))
theorem zFe_iir {st} (ha : zAl B st) {f f' : zKt → Int32 → Int32 → Nat → Nat → List zV → zR} (h : ∀ v i g k r, B k = true → zAl B r → zFe B (fun K => f K v i g k r) (fun K => f' K v i g k r)) : zFe B (fun K => ziir st (f K)) (fun K => ziir st (f' K)) := by
  rcases st with _ | ⟨v0, r0⟩
  · exact zFe_n
  rcases v0 with x0 | v0
  case inr => exact zFe_n
  rcases r0 with _ | ⟨v1, r1⟩
  · exact zFe_n
  rcases v1 with x1 | v1
  case inr => exact zFe_n
  rcases r1 with _ | ⟨v2, r2⟩
  · exact zFe_n
  rcases v2 with v2 | v2
  · exact zFe_n
  rcases v2 with v2 | ⟨g, k⟩
  · exact zFe_n
  exact h x0 x1 g k r2 (zAh (zAt1 (zAt1 ha))) (zAt1 (zAt1 (zAt1 ha)))
theorem zFe_lir {st} (ha : zAl B st) {f f' : zKt → Int64 → Int32 → Nat → Nat → List zV → zR} (h : ∀ v i g k r, B k = true → zAl B r → zFe B (fun K => f K v i g k r) (fun K => f' K v i g k r)) : zFe B (fun K => zlir st (f K)) (fun K => zlir st (f' K)) := by
  rcases st with _ | ⟨v0, r0⟩
  · exact zFe_n
  rcases v0 with v0 | v0
  · exact zFe_n
  rcases v0 with x0 | v0
  case inr => exact zFe_n
  rcases r0 with _ | ⟨v1, r1⟩
  · exact zFe_n
  rcases v1 with x1 | v1
  case inr => exact zFe_n
  rcases r1 with _ | ⟨v2, r2⟩
  · exact zFe_n
  rcases v2 with v2 | v2
  · exact zFe_n
  rcases v2 with v2 | ⟨g, k⟩
  · exact zFe_n
  exact h x0 x1 g k r2 (zAh (zAt1 (zAt1 ha))) (zAt1 (zAt1 (zAt1 ha)))
theorem zFe_vI {v : Option zV} {f f' : zKt → Int32 → zR} (h : ∀ x, zFe B (fun K => f K x) (fun K => f' K x)) : zFe B (fun K => zvI v (f K)) (fun K => zvI v (f' K)) := by
  rcases v with _ | v
  · exact zFe_n
  rcases v with x | v
  · exact h x
  · exact zFe_n
theorem zFe_vL {v : Option zV} {f f' : zKt → Int64 → zR} (h : ∀ x, zFe B (fun K => f K x) (fun K => f' K x)) : zFe B (fun K => zvL v (f K)) (fun K => zvL v (f' K)) := by
  rcases v with _ | v
  · exact zFe_n
  rcases v with x | v
  · exact zFe_n
  rcases v with x | v
  · exact h x
  · exact zFe_n
theorem zFe_vR {ls : zL} {a : Nat} (hl : zLl B ls) {f f' : zKt → Nat → Nat → zR} (h : ∀ g k, B k = true → zFe B (fun K => f K g k) (fun K => f' K g k)) : zFe B (fun K => zvR (zget ls a) (f K)) (fun K => zvR (zget ls a) (f' K)) := by
  have q : ∀ v, zget ls a = some v → zKv B v := fun v hv => hl _ (zget_mem hv)
  rcases hz : zget ls a with _ | v
  · exact zFe_n
  rcases v with x | v
  · exact zFe_n
  rcases v with x | ⟨g, k⟩
  · exact zFe_n
  · exact h g k (q _ hz)
theorem zFe_sw {x df l} {f f' : zKt → Nat → zR} (h : ∀ t, zFe B (fun K => f K t) (fun K => f' K t)) : zFe B (fun K => zsw (f K) x df l) (fun K => zsw (f' K) x df l) := by
  induction l with
  | nil => exact h df
  | cons a l ih =>
    obtain ⟨v, t⟩ := a
    exact zFe_i (h t) ih
theorem zFe_cal {rk nx ls rest} {x y : Int32 × Int64 × zM} (e1 : y.1 = x.1) (e2 : y.2.1 = x.2.1) (hl : zLl B ls) (ha : zAl B rest) (hs : zAg B x.2.2 y.2.2) : zFe B (fun K => zcal rk nx K ls rest x) (fun K => zcal rk nx K ls rest y) := by
  obtain ⟨a, b, σ⟩ := x
  obtain ⟨a', b', τ⟩ := y
  cases e1
  cases e2
  unfold zcal
  rcases rk with _ | _ | _ | rk
  · exact zFe_k hl ha hs
  · exact zFe_k hl (zAc trivial ha) hs
  · exact zFe_k hl (zAc trivial ha) hs
  · exact zFe_k hl (zAc trivial ha) hs
def zCr (B : Nat → Bool) (C C' : zC) : Prop := ∀ j as σ τ r, C j as σ = some r → zAl B as → zAg B σ τ → ∃ r', C' j as τ = some r' ∧ r'.1 = r.1 ∧ r'.2.1 = r.2.1 ∧ zAg B r.2.2 r'.2.2
theorem zFe_inv {C C' : zC} {own nx i vf ls st σ τ} (hC : zCr B C C') (hl : zLl B ls) (ha : zAl B st) (hs : zAg B σ τ) : zFe B (fun K => ziq C own nx i vf K ls st σ) (fun K => zinv C' own nx i vf K ls st τ) := by
  unfold zinv ziq
  cases zmd own i with
  | none => exact zFe_n
  | some q =>
    obtain ⟨j, n, rc⟩ := q
    dsimp only
    cases hp : zpop n st [] with
    | none => exact zFe_n
    | some w =>
      obtain ⟨as, rest⟩ := w
      obtain ⟨t, ht1, ht2, ht3⟩ := zpop_s hp
      rw [List.append_nil] at ht3
      have h1 : zAl B rest := fun v hv => ha v (by rw [ht2]; exact List.mem_append_right _ hv)
      have h2 : zAl B as := fun v hv => ha v (by rw [ht2]; rw [ht3] at hv; exact List.mem_append_left _ (List.mem_reverse.mp hv))
      dsimp only
      refine zFe_z ?_ zFe_n
      cases hq : C j as σ with
      | none => exact zFe_n
      | some x =>
        obtain ⟨y, hy, e1, e2, e3⟩ := hC _ _ _ _ _ hq h2 hs
        rw [hy]
        exact zFe_cal e1 e2 hl h1 e3
theorem zFe_op {C C' : zC} {own rk ls st σ τ} (hB : zCl2 B) (h90 : B 90 = false) (hC : zCr B C C') (hl : zLl B ls) (ha : zAl B st) (hs : zAg B σ τ) (e : zE) : zFe B (fun K => zoq C own rk K ls st σ e) (fun K => zop C' own rk K ls st τ e) := by
  obtain ⟨ins, nx, tg, c, d, sw, mk⟩ := e
  cases ins
  case ifCond cnd off => cases cnd <;> exact zFe_o1 ha fun _ _ hr => zFe_i (zFe_k hl hr hs) (zFe_k hl hr hs)
  case if_icmp cnd off => cases cnd <;> exact zFe_o2 ha fun _ _ _ hr => zFe_i (zFe_k hl hr hs) (zFe_k hl hr hs)
  case iadd => exact zFe_o2 ha fun _ _ _ hr => zFe_k hl (zAc trivial hr) hs
  case isub => exact zFe_o2 ha fun _ _ _ hr => zFe_k hl (zAc trivial hr) hs
  case imul => exact zFe_o2 ha fun _ _ _ hr => zFe_k hl (zAc trivial hr) hs
  case iand => exact zFe_o2 ha fun _ _ _ hr => zFe_k hl (zAc trivial hr) hs
  case ior => exact zFe_o2 ha fun _ _ _ hr => zFe_k hl (zAc trivial hr) hs
  case ixor => exact zFe_o2 ha fun _ _ _ hr => zFe_k hl (zAc trivial hr) hs
  case ishl => exact zFe_o2 ha fun _ _ _ hr => zFe_k hl (zAc trivial hr) hs
  case ishr => exact zFe_o2 ha fun _ _ _ hr => zFe_k hl (zAc trivial hr) hs
  case iushr => exact zFe_o2 ha fun _ _ _ hr => zFe_k hl (zAc trivial hr) hs
  case idiv => exact zFe_o2 ha fun _ _ _ hr => zFe_i zFe_n (zFe_k hl (zAc trivial hr) hs)
  case irem => exact zFe_o2 ha fun _ _ _ hr => zFe_i zFe_n (zFe_k hl (zAc trivial hr) hs)
  case ineg => exact zFe_o1 ha fun _ _ hr => zFe_k hl (zAc trivial hr) hs
  case i2l => exact zFe_o1 ha fun _ _ hr => zFe_k hl (zAc trivial hr) hs
  case i2b => exact zFe_o1 ha fun _ _ hr => zFe_k hl (zAc trivial hr) hs
  case i2s => exact zFe_o1 ha fun _ _ hr => zFe_k hl (zAc trivial hr) hs
  case i2c => exact zFe_o1 ha fun _ _ hr => zFe_k hl (zAc trivial hr) hs
  case istore => exact zFe_o1 ha fun _ _ hr => zFe_k (zLp trivial hl) hr hs
  case istore_n => exact zFe_o1 ha fun _ _ hr => zFe_k (zLp trivial hl) hr hs
  case lstore_n => exact zFe_l1 ha fun _ _ hr => zFe_k (zLc (zLp trivial hl)) hr hs
  case l2i => exact zFe_l1 ha fun _ _ hr => zFe_k hl (zAc trivial hr) hs
  case ladd => exact zFe_l2 ha fun _ _ _ hr => zFe_k hl (zAc trivial hr) hs
  case lmul => exact zFe_l2 ha fun _ _ _ hr => zFe_k hl (zAc trivial hr) hs
  case land => exact zFe_l2 ha fun _ _ _ hr => zFe_k hl (zAc trivial hr) hs
  case lor => exact zFe_l2 ha fun _ _ _ hr => zFe_k hl (zAc trivial hr) hs
  case lcmp => exact zFe_l2 ha fun _ _ _ hr => zFe_k hl (zAc trivial hr) hs
  case lshl => exact zFe_li ha fun _ _ _ hr => zFe_k hl (zAc trivial hr) hs
  case lshr => exact zFe_li ha fun _ _ _ hr => zFe_k hl (zAc trivial hr) hs
  case lushr => exact zFe_li ha fun _ _ _ hr => zFe_k hl (zAc trivial hr) hs
  case iload => exact zFe_vI fun _ => zFe_k hl (zAc trivial ha) hs
  case iload_n => exact zFe_vI fun _ => zFe_k hl (zAc trivial ha) hs
  case iinc => exact zFe_vI fun _ => zFe_k (zLp trivial hl) ha hs
  case lload => exact zFe_vL fun _ => zFe_k hl (zAc trivial ha) hs
  case lload_n => exact zFe_vL fun _ => zFe_k hl (zAc trivial ha) hs
  case aload_n => exact zFe_vR hl fun _ _ hk => zFe_z zFe_n (zFe_k hl (zAc hk ha) hs)
  case iconst => exact zFe_k hl (zAc trivial ha) hs
  case bipush => exact zFe_k hl (zAc trivial ha) hs
  case sipush => exact zFe_k hl (zAc trivial ha) hs
  case lconst => exact zFe_k hl (zAc trivial ha) hs
  case ldc_w => exact zFe_k hl (zAc trivial ha) hs
  case ldc2_w => exact zFe_k hl (zAc trivial ha) hs
  case goto => exact zFe_k hl ha hs
  case ldc i =>
    simp only [zop, zoq]
    cases zsd own i with
    | some j => exact zFe_k hl (zAc hB.2.2.1 ha) hs
    | none => exact zFe_k hl (zAc trivial ha) hs
  case dup =>
    rcases st with _ | ⟨v, r⟩
    · exact zFe_n
    rcases v with x | v
    · exact zFe_k hl (zAc trivial ha) hs
    rcases v with x | v
    · exact zFe_n
    · exact zFe_k hl (zAc (zAh ha) ha) hs
  case pop =>
    rcases st with _ | ⟨v, r⟩
    · exact zFe_n
    rcases v with x | v
    · exact zFe_k hl (zAt1 ha) hs
    rcases v with x | v
    · exact zFe_n
    · exact zFe_k hl (zAt1 ha) hs
  case dup2 => exact zFe_ir ha fun _ _ _ _ hk hr => zFe_k hl (zAc trivial (zAc hk (zAc trivial (zAc hk hr)))) hs
  case tableswitch => exact zFe_o1 ha fun _ _ hr => zFe_sw fun _ => zFe_k hl hr hs
  case lookupswitch => exact zFe_o1 ha fun _ _ hr => zFe_sw fun _ => zFe_k hl hr hs
  case invokevirtual => exact zFe_inv hC hl ha hs
  case invokestatic => exact zFe_inv hC hl ha hs
  case ireturn =>
    rcases st with _ | ⟨v, r⟩
    · exact zFe_n
    rcases v with x | v
    · rcases r with _ | ⟨w, r⟩
      · rcases rk with _ | _ | rk
        · exact zFe_g (zFe_e hs)
        · exact zFe_e hs
        · exact zFe_g (zFe_e hs)
      · exact zFe_n
    · exact zFe_n
  case lreturn =>
    rcases st with _ | ⟨v, r⟩
    · exact zFe_n
    rcases v with x | v
    · exact zFe_n
    rcases v with x | v
    · rcases r with _ | ⟨w, r⟩
      · exact zFe_z (zFe_e hs) zFe_n
      · exact zFe_n
    · exact zFe_n
  case return_ =>
    rcases st with _ | ⟨v, r⟩
    · exact zFe_z (zFe_e hs) zFe_n
    · exact zFe_n
  case getfield i =>
    refine zFe_r1 ha fun g k r hk hr => ?_
    cases zfd own i with
    | none => exact zFe_n
    | some q =>
      obtain ⟨ci, j⟩ := q
      dsimp only
      rcases zkd k with ⟨t, n⟩
      rcases t with _ | _ | _ | _ | _ | _ | _ | t
      case zero =>
        refine zFe_z ?_ zFe_n
        cases hz : zed k j with
        | none => exact zFe_kr (congrArg Sum.inl (hs.1 _ _ _ hk).1) hl (zAc trivial hr) hs
        | some w =>
          obtain ⟨g2, k2⟩ := w
          cases g2 with
          | none => exact zFe_k hl (zAc (hB.1 _ _ _ _ hk hz) hr) hs
          | some g2 => exact zFe_k hl (zAc (hB.1 _ _ _ _ hk hz) hr) hs
      case succ.succ.succ.succ.succ.succ.zero =>
        refine zFe_z ?_ zFe_n
        cases j with
        | zero => exact zFe_k hl (zAc hB.2.2.2.1 hr) hs
        | succ j => exact zFe_k hl (zAc trivial hr) hs
      all_goals exact zFe_n
  case putfield i =>
    rcases st with _ | ⟨v, r⟩
    · exact zFe_n
    rcases v with x | v
    case inr => exact zFe_n
    rcases r with _ | ⟨v, r⟩
    · exact zFe_n
    rcases v with v | v
    · exact zFe_n
    rcases v with v | ⟨g, k⟩
    · exact zFe_n
    have hk : B k = true := zAh (zAt1 ha)
    have hr := zAt1 (zAt1 ha)
    simp only [zop, zoq]
    cases zfd own i with
    | none => exact zFe_n
    | some q =>
      obtain ⟨ci, j⟩ := q
      dsimp only
      rcases zkd k with ⟨t, n⟩
      rcases t with _ | t
      · exact zFe_z (zFe_z (zFe_g (zFe_k hl hr (zAg_I hs))) (zFe_k hl hr (zAg_I hs))) zFe_n
      · exact zFe_n
  case getstatic i =>
    simp only [zop, zoq]
    rcases zfd own i with _ | ⟨a, b⟩
    · exact zFe_n
    by_cases h17 : a = 17
    · subst h17
      rcases b with _ | _ | b
      · exact zFe_k hl (zAc (v := .inl 1) trivial ha) hs
      · exact zFe_k hl (zAc (v := .inr (.inr (0, 99))) hB.2.2.2.2 ha) hs
      · exact zFe_n
    · refine Or.inl fun K => ?_
      split
      · rename_i h; cases h; exact absurd rfl h17
      · rename_i h; cases h; exact absurd rfl h17
      · rfl
  case iaload =>
    refine zFe_ir ha fun i g k r hk hr => ?_
    have h5 : ∀ n, zkd k ≠ (5, n) := fun n hn => by rw [zkd_5 hn, h90] at hk; cases hk
    rcases hz : zkd k with ⟨t, n⟩
    rcases t with _ | _ | _ | _ | _ | _ | t
    case succ.zero =>
      cases tg with
      | zero => exact zFe_g (zFe_kr (congrArg Sum.inl (hs.1 _ _ _ hk).1) hl (zAc trivial hr) hs)
      | succ m => exact zFe_z (zFe_kr (congrArg Sum.inl (hs.1 _ _ _ hk).1) hl (zAc trivial hr) hs) zFe_n
    case succ.succ.succ.succ.succ.zero => exact absurd hz (h5 n)
    all_goals exact zFe_n
  case laload =>
    refine zFe_ir ha fun i g k r hk hr => ?_
    rcases hz : zkd k with ⟨t, n⟩
    rcases t with _ | _ | _ | t
    case succ.succ.zero => exact zFe_g (zFe_kr (congrArg (fun x => Sum.inr (Sum.inl x)) (hs.1 _ _ _ hk).2) hl (zAc trivial hr) hs)
    all_goals exact zFe_n
  case aaload =>
    refine zFe_ir ha fun i g k r hk hr => ?_
    have h3 : ∀ t n, zkd k = (t, n) → t = 3 ∨ t = 4 → B (k + 1) = true := fun t n => hB.2.1 k t n hk
    rcases hz : zkd k with ⟨t, n⟩
    rcases t with _ | _ | _ | _ | _ | t
    case succ.succ.succ.zero => exact zFe_g (zFe_k hl (zAc (h3 _ _ hz (Or.inl rfl)) hr) hs)
    case succ.succ.succ.succ.zero => exact zFe_g (zFe_k hl (zAc (h3 _ _ hz (Or.inr rfl)) hr) hs)
    all_goals exact zFe_n
  case baload =>
    refine zFe_ir ha fun i g k r hk hr => ?_
    rcases zkd k with ⟨t, n⟩
    rcases t with _ | _ | _ | _ | _ | _ | _ | _ | t
    case succ.succ.succ.succ.succ.succ.succ.zero => exact zFe_g (zFe_k hl (zAc trivial hr) hs)
    all_goals exact zFe_n
  case iastore =>
    refine zFe_iir ha fun v i g k r hk hr => ?_
    rcases zkd k with ⟨t, n⟩
    rcases t with _ | _ | t
    case succ.zero =>
      cases tg with
      | zero => exact zFe_g (zFe_k hl hr (zAg_I hs))
      | succ m => exact zFe_z (zFe_k hl hr (zAg_I hs)) zFe_n
    all_goals exact zFe_n
  case lastore =>
    refine zFe_lir ha fun v i g k r hk hr => ?_
    rcases zkd k with ⟨t, n⟩
    rcases t with _ | _ | _ | t
    case succ.succ.zero => exact zFe_g (zFe_k hl hr (zAg_L hs))
    all_goals exact zFe_n
  case arraylength =>
    refine zFe_r1 ha fun g k r hk hr => ?_
    rcases zkd k with ⟨t, n⟩
    rcases t with _ | _ | _ | _ | _ | _ | _ | _ | t
    case succ.zero => exact zFe_k hl (zAc trivial hr) hs
    case succ.succ.succ.succ.succ.zero => exact zFe_kr (congrArg Sum.inl hs.2) hl (zAc trivial hr) hs
    case succ.succ.succ.succ.succ.succ.succ.zero => exact zFe_k hl (zAc trivial hr) hs
    all_goals exact zFe_n
  all_goals exact zFe_n
theorem zFe_st {C C' : zC} {T : zT} {pc ls st σ τ} (hB : zCl2 B) (h90 : B 90 = false) (hC : zCr B C C') (hl : zLl B ls) (ha : zAl B st) (hs : zAg B σ τ) : zFe B (fun K => zsq C T K pc ls st σ) (fun K => zst C' T K pc ls st τ) := by
  unfold zst zsq
  cases zas (T.2.1.getD (pc / 32) []) pc with
  | none => exact zFe_n
  | some e => exact zFe_op hB h90 hC (zLm hl) ha hs e
theorem zrQ_ag {C C' : zC} {T : zT} (hB : zCl2 B) (h90 : B 90 = false) (hC : zCr B C C') : ∀ (n : Nat) {pc ls st σ τ r}, zrQ C T n pc ls st σ = some r → zLl B ls → zAl B st → zAg B σ τ → ∃ r', zrF C' T n pc ls st τ = some r' ∧ r'.1 = r.1 ∧ r'.2.1 = r.2.1 ∧ zAg B r.2.2 r'.2.2
  | 0, _, _, _, _, _, _, h, _, _, _ => by cases h
  | n + 1, pc, ls, st, σ, τ, r, h, hl, ha, hs => by
    rcases zFe_st (T := T) (pc := pc) hB h90 hC hl ha hs with hq | ⟨x, y, hq, hq', e⟩ | ⟨p2, l2, s2, m2, m3, g1, g2, g3, hq, hq'⟩
    · exact absurd ((hq (zrQ C T n)).symm.trans h) (by intro h; cases h)
    · have := (hq (zrQ C T n)).symm.trans h
      cases this
      exact ⟨y, hq' (zrF C' T n), e⟩
    · obtain ⟨r', h1, h2⟩ := zrQ_ag hB h90 hC n ((hq (zrQ C T n)).symm.trans h) g1 g2 g3
      exact ⟨r', (hq' (zrF C' T n)).trans h1, h2⟩
noncomputable def zef (n : Nat) : Nat → zC
  | 0 => fun _ _ _ => none
  | d + 1 => fun j as σ => match zbi j with
    | some f => f as σ
    | none => match zTL[j]? with
      | none => none
      | some T => zcb (Nat.ble (zent as).length T.2.2.2) (zrQ (zef n d) T n 0 (zpad T.2.2.2 (zent as)) [] σ) none
theorem zcopy_ag {as σ τ r} (h : zcopy as σ = some r) (ha : zAl B as) (hs : zAg B σ τ) : ∃ r', zcopy as τ = some r' ∧ r'.1 = r.1 ∧ r'.2.1 = r.2.1 ∧ zAg B r.2.2 r'.2.2 := by
  unfold zcopy at h
  split at h
  · rename_i g k sp g2 k2 dp nn
    have hk : B k = true := ha (.inr (.inr (g, k))) List.mem_cons_self
    unfold zcopy
    dsimp only
    split at h
    · revert h
      generalize (decide (0 ≤ sp) && decide (0 ≤ dp) && decide (0 ≤ nn) && _ && _) = bb
      intro h
      cases bb
      · cases h
      · cases h
        exact ⟨_, rfl, rfl, rfl, zAg_C hk hs⟩
    · cases h
  · cases h
theorem zef_ag (hB : zCl2 B) (h90 : B 90 = false) (n : Nat) : ∀ d, zCr B (zef n d) (zev d)
  | 0 => fun j as σ τ r h => by cases h
  | d + 1 => fun j as σ τ r h ha hs => by
    cases hb : zbi j with
    | some f =>
      have h' : f as σ = some r := by
        have : zef n (d + 1) j as σ = f as σ := by
          show (match zbi j with | some f => f as σ | none => _) = _
          rw [hb]
        exact this ▸ h
      rw [zev_b hb]
      rcases zbi_cases hb with ⟨-, rfl⟩ | ⟨-, rfl⟩ | ⟨-, rfl⟩
      · exact zcopy_ag h' ha hs
      · unfold zmx at h'
        split at h'
        · cases h'
          exact ⟨_, rfl, rfl, rfl, hs⟩
        · cases h'
      · unfold zmn at h'
        split at h'
        · cases h'
          exact ⟨_, rfl, rfl, rfl, hs⟩
        · cases h'
    | none =>
      have e : zef n (d + 1) j as σ = match zTL[j]? with
        | none => none
        | some T => zcb (Nat.ble (zent as).length T.2.2.2) (zrQ (zef n d) T n 0 (zpad T.2.2.2 (zent as)) [] σ) none := by
        show (match zbi j with | some f => f as σ | none => _) = _
        rw [hb]
      rw [e] at h
      cases hT : zTL[j]? with
      | none =>
        rw [hT] at h
        cases h
      | some T =>
        rw [hT] at h
        cases hl : Nat.ble (zent as).length T.2.2.2 with
        | false =>
          have h' : zcb (Nat.ble (zent as).length T.2.2.2) (zrQ (zef n d) T n 0 (zpad T.2.2.2 (zent as)) [] σ) none = some r := h
          rw [hl] at h'
          cases h'
        | true =>
          have h' : zcb (Nat.ble (zent as).length T.2.2.2) (zrQ (zef n d) T n 0 (zpad T.2.2.2 (zent as)) [] σ) none = some r := h
          rw [hl] at h'
          have h'' : zrQ (zef n d) T n 0 (zpad T.2.2.2 (zent as)) [] σ = some r := h'
          rw [zev_m hT hb hl]
          obtain ⟨r', g1, g2⟩ := zrQ_ag hB h90 (zef_ag hB h90 n d) n h'' (fun v hv => by
            rcases List.mem_append.mp hv with hv | hv
            · exact ha v (zent_mem hv)
            · cases List.eq_of_mem_replicate hv) (fun _ h => by cases h) hs
          exact ⟨r', zrun_of g1, g2⟩
end ZFE
