section ZFD
variable {sc : zM → Prop} {B : Nat → Bool}
def zCl2 (B : Nat → Bool) : Prop := (∀ k j go k2, B k = true → zed k j = some (go, k2) → B k2 = true) ∧ (∀ k t n, B k = true → zkd k = (t, n) → t = 3 ∨ t = 4 → B (k + 1) = true) ∧ B 95 = true ∧ B 96 = true ∧ B 99 = true
def zKv (B : Nat → Bool) : zV → Prop
  | .inr (.inr (_, k)) => B k = true
  | _ => True
def zAl (B : Nat → Bool) (st : List zV) : Prop := ∀ v ∈ st, zKv B v
def zLl (B : Nat → Bool) (ls : zL) : Prop := ∀ v, some v ∈ ls → zKv B v
def zSk (B : Nat → Bool) (sc : zM → Prop) : Prop := (∀ σ g k i v, B k = true → sc σ → sc (zwI σ g k i v)) ∧ (∀ σ g k i v, B k = true → sc σ → sc (zwL σ g k i v)) ∧ ∀ σ g k sp g2 k2 dp n, B k2 = true → sc σ → sc (zcop σ g k sp g2 k2 dp n)
theorem zAc {v : zV} {r : List zV} (h : zKv B v) (hr : zAl B r) : zAl B (v :: r) := fun w hw => (List.mem_cons.mp hw).elim (fun e => e ▸ h) (hr w)
theorem zAt1 {v : zV} {r : List zV} (h : zAl B (v :: r)) : zAl B r := fun w hw => h w (List.mem_cons_of_mem _ hw)
theorem zAh {v : zV} {r : List zV} (h : zAl B (v :: r)) : zKv B v := h v List.mem_cons_self
theorem zLp {ls : zL} {a : Nat} {v : zV} (h : zKv B v) (hl : zLl B ls) : zLl B (zput ls a v) := fun w hw => (zput_mem hw).elim (hl w) (fun e => e ▸ h)
theorem zLc {ls : zL} {a : Nat} (hl : zLl B ls) : zLl B (zcut ls a) := fun w hw => hl w (zcut_mem hw)
theorem zLm {ls : zL} {mk : List Bool} (hl : zLl B ls) : zLl B (zmk mk ls) := fun w hw => hl w (zmk_sub hw)
def zFd (B : Nat → Bool) (sc : zM → Prop) (F : zKt → zR) : Prop := (∃ r, (∀ x, r = some x → sc x.2.2) ∧ ∀ K, F K = r) ∨ (∃ pc ls st σ, zLl B ls ∧ zAl B st ∧ sc σ ∧ ∀ K, F K = K pc ls st σ)
theorem zFd_c : zFd B sc (fun _ => none) := Or.inl ⟨none, (fun _ h => by cases h), fun _ => rfl⟩
theorem zFd_e {x : Int32 × Int64 × zM} (h : sc x.2.2) : zFd B sc (fun _ => some x) := Or.inl ⟨some x, (fun _ q => by cases q; exact h), fun _ => rfl⟩
theorem zFd_k {pc ls st σ} (hl : zLl B ls) (ha : zAl B st) (hs : sc σ) : zFd B sc (fun K => K pc ls st σ) := Or.inr ⟨pc, ls, st, σ, hl, ha, hs, fun _ => rfl⟩
theorem zFd_z {b : Bool} {F G : zKt → zR} (hF : zFd B sc F) (hG : zFd B sc G) : zFd B sc (fun K => zcb b (F K) (G K)) := by
  cases b
  · exact hG
  · exact hF
theorem zFd_g {b : Bool} {F : zKt → zR} (hF : zFd B sc F) : zFd B sc (fun K => zgd b (F K)) := by
  simp only [zgd_eq]
  exact zFd_z hF zFd_c
theorem zFd_i {P : Prop} {h : Decidable P} {F G : zKt → zR} (hF : zFd B sc F) (hG : zFd B sc G) : zFd B sc (fun K => @ite _ P h (F K) (G K)) := by
  by_cases q : P
  · simp only [if_pos q]; exact hF
  · simp only [if_neg q]; exact hG
theorem zFd_o1 {st} (ha : zAl B st) {f : zKt → Int32 → List zV → zR} (h : ∀ x r, zAl B r → zFd B sc (fun K => f K x r)) : zFd B sc (fun K => zo1 st (f K)) := by
  unfold zo1; split
  · exact h _ _ (zAt1 ha)
  · exact zFd_c
theorem zFd_o2 {st} (ha : zAl B st) {f : zKt → Int32 → Int32 → List zV → zR} (h : ∀ y x r, zAl B r → zFd B sc (fun K => f K y x r)) : zFd B sc (fun K => zo2 st (f K)) := by
  unfold zo2; split
  · exact h _ _ _ (zAt1 (zAt1 ha))
  · exact zFd_c
theorem zFd_l1 {st} (ha : zAl B st) {f : zKt → Int64 → List zV → zR} (h : ∀ x r, zAl B r → zFd B sc (fun K => f K x r)) : zFd B sc (fun K => zl1 st (f K)) := by
  unfold zl1; split
  · exact h _ _ (zAt1 ha)
  · exact zFd_c
theorem zFd_l2 {st} (ha : zAl B st) {f : zKt → Int64 → Int64 → List zV → zR} (h : ∀ y x r, zAl B r → zFd B sc (fun K => f K y x r)) : zFd B sc (fun K => zl2 st (f K)) := by
  unfold zl2; split
  · exact h _ _ _ (zAt1 (zAt1 ha))
  · exact zFd_c
theorem zFd_li {st} (ha : zAl B st) {f : zKt → Int32 → Int64 → List zV → zR} (h : ∀ y x r, zAl B r → zFd B sc (fun K => f K y x r)) : zFd B sc (fun K => zli st (f K)) := by
  unfold zli; split
  · exact h _ _ _ (zAt1 (zAt1 ha))
  · exact zFd_c
theorem zFd_r1 {st} (ha : zAl B st) {f : zKt → Nat → Nat → List zV → zR} (h : ∀ g k r, B k = true → zAl B r → zFd B sc (fun K => f K g k r)) : zFd B sc (fun K => zr1 st (f K)) := by
  unfold zr1; split
  · exact h _ _ _ (zAh ha) (zAt1 ha)
  · exact zFd_c
theorem zFd_ir {st} (ha : zAl B st) {f : zKt → Int32 → Nat → Nat → List zV → zR} (h : ∀ i g k r, B k = true → zAl B r → zFd B sc (fun K => f K i g k r)) : zFd B sc (fun K => zir st (f K)) := by
  unfold zir; split
  · exact h _ _ _ _ (zAh (zAt1 ha)) (zAt1 (zAt1 ha))
  · exact zFd_c
theorem zFd_iir {st} (ha : zAl B st) {f : zKt → Int32 → Int32 → Nat → Nat → List zV → zR} (h : ∀ v i g k r, B k = true → zAl B r → zFd B sc (fun K => f K v i g k r)) : zFd B sc (fun K => ziir st (f K)) := by
  unfold ziir; split
  · exact h _ _ _ _ _ (zAh (zAt1 (zAt1 ha))) (zAt1 (zAt1 (zAt1 ha)))
  · exact zFd_c
theorem zFd_lir {st} (ha : zAl B st) {f : zKt → Int64 → Int32 → Nat → Nat → List zV → zR} (h : ∀ v i g k r, B k = true → zAl B r → zFd B sc (fun K => f K v i g k r)) : zFd B sc (fun K => zlir st (f K)) := by
  unfold zlir; split
  · exact h _ _ _ _ _ (zAh (zAt1 (zAt1 ha))) (zAt1 (zAt1 (zAt1 ha)))
  · exact zFd_c
theorem zFd_vI {v} {f : zKt → Int32 → zR} (h : ∀ x, zFd B sc (fun K => f K x)) : zFd B sc (fun K => zvI v (f K)) := by
  unfold zvI; split
  · exact h _
  · exact zFd_c
theorem zFd_vL {v} {f : zKt → Int64 → zR} (h : ∀ x, zFd B sc (fun K => f K x)) : zFd B sc (fun K => zvL v (f K)) := by
  unfold zvL; split
  · exact h _
  · exact zFd_c
theorem zFd_vR {ls : zL} {a : Nat} (hl : zLl B ls) {f : zKt → Nat → Nat → zR} (h : ∀ g k, B k = true → zFd B sc (fun K => f K g k)) : zFd B sc (fun K => zvR (zget ls a) (f K)) := by
  unfold zvR; split
  · rename_i g k hv
    exact h _ _ (hl _ (zget_mem hv))
  · exact zFd_c
theorem zFd_sw {x df l} {f : zKt → Nat → zR} (h : ∀ t, zFd B sc (fun K => f K t)) : zFd B sc (fun K => zsw (f K) x df l) := by
  induction l with
  | nil => exact h df
  | cons a l ih =>
    obtain ⟨v, t⟩ := a
    unfold zsw
    exact zFd_i (h t) ih
theorem zFd_cal {rk nx ls rest x} (hl : zLl B ls) (ha : zAl B rest) (hs : sc x.2.2) : zFd B sc (fun K => zcal rk nx K ls rest x) := by
  unfold zcal; split
  · exact zFd_k hl ha hs
  · exact zFd_k hl (zAc trivial ha) hs
  · exact zFd_k hl (zAc trivial ha) hs
theorem zFd_inv {C : zC} {own nx i vf ls st σ} (hC : ∀ j as σ r, C j as σ = some r → zAl B as → sc σ → sc r.2.2) (hl : zLl B ls) (ha : zAl B st) (hs : sc σ) : zFd B sc (fun K => zinv C own nx i vf K ls st σ) := by
  unfold zinv
  cases zmd own i with
  | none => exact zFd_c
  | some q =>
    obtain ⟨j, n, rc⟩ := q
    dsimp only
    cases hp : zpop n st [] with
    | none => exact zFd_c
    | some w =>
      obtain ⟨as, rest⟩ := w
      obtain ⟨t, ht1, ht2, ht3⟩ := zpop_s hp
      rw [List.append_nil] at ht3
      have h1 : zAl B rest := fun v hv => ha v (by rw [ht2]; exact List.mem_append_right _ hv)
      have h2 : zAl B as := fun v hv => ha v (by rw [ht2]; rw [ht3] at hv; exact List.mem_append_left _ (List.mem_reverse.mp hv))
      refine zFd_z ?_ zFd_c
      cases hq : C j as σ with
      | none => exact zFd_c
      | some x => exact zFd_cal hl h1 (hC _ _ _ _ hq h2 hs)
theorem zFd_op {C : zC} {own rk ls st σ} (hB : zCl2 B) (hC : ∀ j as σ r, C j as σ = some r → zAl B as → sc σ → sc r.2.2) (hSC : zSk B sc) (hl : zLl B ls) (ha : zAl B st) (hs : sc σ) (e : zE) : zFd B sc (fun K => zop C own rk K ls st σ e) := by
  obtain ⟨ins, nx, tg, c, d, sw, mk⟩ := e
  cases ins
  case ifCond cnd off => cases cnd <;> exact zFd_o1 ha fun _ _ hr => zFd_i (zFd_k hl hr hs) (zFd_k hl hr hs)
  case if_icmp cnd off => cases cnd <;> exact zFd_o2 ha fun _ _ _ hr => zFd_i (zFd_k hl hr hs) (zFd_k hl hr hs)
  case iadd => exact zFd_o2 ha fun _ _ _ hr => zFd_k hl (zAc trivial hr) hs
  case isub => exact zFd_o2 ha fun _ _ _ hr => zFd_k hl (zAc trivial hr) hs
  case imul => exact zFd_o2 ha fun _ _ _ hr => zFd_k hl (zAc trivial hr) hs
  case iand => exact zFd_o2 ha fun _ _ _ hr => zFd_k hl (zAc trivial hr) hs
  case ior => exact zFd_o2 ha fun _ _ _ hr => zFd_k hl (zAc trivial hr) hs
  case ixor => exact zFd_o2 ha fun _ _ _ hr => zFd_k hl (zAc trivial hr) hs
  case ishl => exact zFd_o2 ha fun _ _ _ hr => zFd_k hl (zAc trivial hr) hs
  case ishr => exact zFd_o2 ha fun _ _ _ hr => zFd_k hl (zAc trivial hr) hs
  case iushr => exact zFd_o2 ha fun _ _ _ hr => zFd_k hl (zAc trivial hr) hs
  case idiv => exact zFd_o2 ha fun _ _ _ hr => zFd_i zFd_c (zFd_k hl (zAc trivial hr) hs)
  case irem => exact zFd_o2 ha fun _ _ _ hr => zFd_i zFd_c (zFd_k hl (zAc trivial hr) hs)
  case ineg => exact zFd_o1 ha fun _ _ hr => zFd_k hl (zAc trivial hr) hs
  case i2l => exact zFd_o1 ha fun _ _ hr => zFd_k hl (zAc trivial hr) hs
  case i2b => exact zFd_o1 ha fun _ _ hr => zFd_k hl (zAc trivial hr) hs
  case i2s => exact zFd_o1 ha fun _ _ hr => zFd_k hl (zAc trivial hr) hs
  case i2c => exact zFd_o1 ha fun _ _ hr => zFd_k hl (zAc trivial hr) hs
  case istore => exact zFd_o1 ha fun _ _ hr => zFd_k (zLp trivial hl) hr hs
  case istore_n => exact zFd_o1 ha fun _ _ hr => zFd_k (zLp trivial hl) hr hs
  case lstore_n => exact zFd_l1 ha fun _ _ hr => zFd_k (zLc (zLp trivial hl)) hr hs
  case l2i => exact zFd_l1 ha fun _ _ hr => zFd_k hl (zAc trivial hr) hs
  case ladd => exact zFd_l2 ha fun _ _ _ hr => zFd_k hl (zAc trivial hr) hs
  case lmul => exact zFd_l2 ha fun _ _ _ hr => zFd_k hl (zAc trivial hr) hs
  case land => exact zFd_l2 ha fun _ _ _ hr => zFd_k hl (zAc trivial hr) hs
  case lor => exact zFd_l2 ha fun _ _ _ hr => zFd_k hl (zAc trivial hr) hs
  case lcmp => exact zFd_l2 ha fun _ _ _ hr => zFd_k hl (zAc trivial hr) hs
  case lshl => exact zFd_li ha fun _ _ _ hr => zFd_k hl (zAc trivial hr) hs
  case lshr => exact zFd_li ha fun _ _ _ hr => zFd_k hl (zAc trivial hr) hs
  case lushr => exact zFd_li ha fun _ _ _ hr => zFd_k hl (zAc trivial hr) hs
  case iload => exact zFd_vI fun _ => zFd_k hl (zAc trivial ha) hs
  case iload_n => exact zFd_vI fun _ => zFd_k hl (zAc trivial ha) hs
  case iinc => exact zFd_vI fun _ => zFd_k (zLp trivial hl) ha hs
  case lload => exact zFd_vL fun _ => zFd_k hl (zAc trivial ha) hs
  case lload_n => exact zFd_vL fun _ => zFd_k hl (zAc trivial ha) hs
  case aload_n => exact zFd_vR hl fun _ _ hk => zFd_z zFd_c (zFd_k hl (zAc hk ha) hs)
  case iconst => exact zFd_k hl (zAc trivial ha) hs
  case bipush => exact zFd_k hl (zAc trivial ha) hs
  case sipush => exact zFd_k hl (zAc trivial ha) hs
  case lconst => exact zFd_k hl (zAc trivial ha) hs
  case ldc_w => exact zFd_k hl (zAc trivial ha) hs
  case ldc2_w => exact zFd_k hl (zAc trivial ha) hs
  case goto => exact zFd_k hl ha hs
  case ldc i =>
    simp only [zop]
    split
    · exact zFd_k hl (zAc hB.2.2.1 ha) hs
    · exact zFd_k hl (zAc trivial ha) hs
  case dup =>
    simp only [zop]
    split
    · exact zFd_k hl (zAc trivial ha) hs
    · exact zFd_k hl (zAc (zAh ha) ha) hs
    · exact zFd_c
  case pop =>
    simp only [zop]
    split
    · exact zFd_k hl (zAt1 ha) hs
    · exact zFd_k hl (zAt1 ha) hs
    · exact zFd_c
  case dup2 => exact zFd_ir ha fun _ _ _ _ hk hr => zFd_k hl (zAc trivial (zAc hk (zAc trivial (zAc hk hr)))) hs
  case tableswitch => exact zFd_o1 ha fun _ _ hr => zFd_sw fun _ => zFd_k hl hr hs
  case lookupswitch => exact zFd_o1 ha fun _ _ hr => zFd_sw fun _ => zFd_k hl hr hs
  case invokevirtual => exact zFd_inv hC hl ha hs
  case invokestatic => exact zFd_inv hC hl ha hs
  case ireturn =>
    simp only [zop]
    split
    · split
      · exact zFd_e hs
      · exact zFd_g (zFd_e hs)
    · exact zFd_c
  case lreturn =>
    simp only [zop]
    split
    · exact zFd_z (zFd_e hs) zFd_c
    · exact zFd_c
  case return_ =>
    simp only [zop]
    split
    · exact zFd_z (zFd_e hs) zFd_c
    · exact zFd_c
  case getfield i =>
    refine zFd_r1 ha fun g k r hk hr => ?_
    split
    · exact zFd_c
    · split
      · refine zFd_z ?_ zFd_c
        split
        · exact zFd_k hl (zAc trivial hr) hs
        · rename_i hz
          exact zFd_k hl (zAc (hB.1 _ _ _ _ hk hz) hr) hs
        · rename_i hz
          exact zFd_k hl (zAc (hB.1 _ _ _ _ hk hz) hr) hs
      · refine zFd_z ?_ zFd_c
        split
        · exact zFd_k hl (zAc hB.2.2.2.1 hr) hs
        · exact zFd_k hl (zAc trivial hr) hs
      · exact zFd_c
  case putfield i =>
    simp only [zop]
    split
    · rename_i x g k r
      have hk := zAh (zAt1 ha)
      have hr := zAt1 (zAt1 ha)
      split
      · exact zFd_c
      · split
        · exact zFd_z (zFd_z (zFd_g (zFd_k hl hr (hSC.1 _ _ _ _ _ hk hs))) (zFd_k hl hr (hSC.1 _ _ _ _ _ hk hs))) zFd_c
        · exact zFd_c
    · exact zFd_c
  case getstatic i =>
    simp only [zop]
    split
    · exact zFd_k hl (zAc trivial ha) hs
    · exact zFd_k hl (zAc hB.2.2.2.2 ha) hs
    · exact zFd_c
  case iaload =>
    refine zFd_ir ha fun i g k r hk hr => ?_
    split
    · split
      · exact zFd_g (zFd_k hl (zAc trivial hr) hs)
      · exact zFd_z (zFd_k hl (zAc trivial hr) hs) zFd_c
    · exact zFd_g (zFd_k hl (zAc trivial hr) hs)
    · exact zFd_c
  case laload =>
    refine zFd_ir ha fun i g k r hk hr => ?_
    split
    · exact zFd_g (zFd_k hl (zAc trivial hr) hs)
    · exact zFd_c
  case aaload =>
    refine zFd_ir ha fun i g k r hk hr => ?_
    split
    · rename_i hz
      exact zFd_g (zFd_k hl (zAc (hB.2.1 _ _ _ hk hz (Or.inl rfl)) hr) hs)
    · rename_i hz
      exact zFd_g (zFd_k hl (zAc (hB.2.1 _ _ _ hk hz (Or.inr rfl)) hr) hs)
    · exact zFd_c
  case baload =>
    refine zFd_ir ha fun i g k r hk hr => ?_
    split
    · exact zFd_g (zFd_k hl (zAc trivial hr) hs)
    · exact zFd_c
  case iastore =>
    refine zFd_iir ha fun v i g k r hk hr => ?_
    split
    · split
      · exact zFd_g (zFd_k hl hr (hSC.1 _ _ _ _ _ hk hs))
      · exact zFd_z (zFd_k hl hr (hSC.1 _ _ _ _ _ hk hs)) zFd_c
    · exact zFd_c
  case lastore =>
    refine zFd_lir ha fun v i g k r hk hr => ?_
    split
    · exact zFd_g (zFd_k hl hr (hSC.2.1 _ _ _ _ _ hk hs))
    · exact zFd_c
  case arraylength =>
    refine zFd_r1 ha fun g k r hk hr => ?_
    split
    · exact zFd_k hl (zAc trivial hr) hs
    · exact zFd_k hl (zAc trivial hr) hs
    · exact zFd_k hl (zAc trivial hr) hs
    · exact zFd_c
  all_goals exact zFd_c
theorem zFd_st {C : zC} {T : zT} {pc ls st σ} (hB : zCl2 B) (hC : ∀ j as σ r, C j as σ = some r → zAl B as → sc σ → sc r.2.2) (hSC : zSk B sc) (hl : zLl B ls) (ha : zAl B st) (hs : sc σ) : zFd B sc (fun K => zst C T K pc ls st σ) := by
  unfold zst
  split
  · exact zFd_c
  · exact zFd_op hB hC hSC (zLm hl) ha hs _
theorem zrF_fr {C : zC} {T : zT} (hB : zCl2 B) (hC : ∀ j as σ r, C j as σ = some r → zAl B as → sc σ → sc r.2.2) (hSC : zSk B sc) : ∀ (n : Nat) {pc ls st σ r}, zrF C T n pc ls st σ = some r → zLl B ls → zAl B st → sc σ → sc r.2.2
  | 0, _, _, _, _, _, h, _, _, _ => by cases h
  | n + 1, pc, ls, st, σ, r, h, hl, ha, hs => by
    rcases zFd_st (C := C) (T := T) (pc := pc) (ls := ls) (st := st) (σ := σ) hB hC hSC hl ha hs with ⟨q, h1, hq⟩ | ⟨p2, l2, s2, m2, g1, g2, h1, hq⟩
    · exact h1 r ((hq (zrF C T n)).symm.trans h)
    · exact zrF_fr hB hC hSC n ((hq (zrF C T n)).symm.trans h) g1 g2 h1
theorem zcopy_fr (hSC : zSk B sc) {as σ r} (h : zcopy as σ = some r) (ha : zAl B as) (hs : sc σ) : sc r.2.2 := by
  unfold zcopy at h
  split at h
  · rename_i g k sp g2 k2 dp nn
    have hk2 : B k2 = true := ha (.inr (.inr (g2, k2))) (List.mem_cons_of_mem _ (List.mem_cons_of_mem _ List.mem_cons_self))
    split at h
    · have h2 : ∀ (bb : Bool) (x : zR), (bif bb then x else none) = some r → x = some r := by
        intro bb x h
        cases bb
        · cases h
        · exact h
      have h3 := h2 _ _ h
      cases h3
      exact hSC.2.2 _ _ _ _ _ _ _ _ hk2 hs
    · cases h
  · cases h
theorem zev_fr (hB : zCl2 B) (hSC : zSk B sc) : ∀ (d : Nat) j as σ r, zev d j as σ = some r → zAl B as → sc σ → sc r.2.2
  | 0, _, _, _, _, h, _, _ => by cases h
  | d + 1, j, as, σ, r, h, ha, hs => by
    cases hb : zbi j with
    | some f =>
      rw [zev_b hb] at h
      rcases zbi_cases hb with ⟨-, rfl⟩ | ⟨-, rfl⟩ | ⟨-, rfl⟩
      · exact zcopy_fr hSC h ha hs
      · unfold zmx at h
        split at h
        · cases h; exact hs
        · cases h
      · unfold zmn at h
        split at h
        · cases h; exact hs
        · cases h
    | none =>
      cases hT : zTL[j]? with
      | none =>
        have : zev (d + 1) j as σ = none := by
          show (match zbi j with | some f => f as σ | none => _) = _
          rw [hb, hT]
        rw [this] at h
        cases h
      | some T =>
        cases hl : Nat.ble (zent as).length T.2.2.2 with
        | false =>
          have : zev (d + 1) j as σ = none := by
            show (match zbi j with | some f => f as σ | none => _) = _
            rw [hb, hT]
            show zcb (Nat.ble (zent as).length T.2.2.2) _ none = _
            rw [hl]
            rfl
          rw [this] at h
          cases h
        | true =>
          rw [zev_m hT hb hl] at h
          obtain ⟨n, hn⟩ := zrun_some h
          refine zrF_fr hB (fun j as σ r => zev_fr hB hSC d j as σ r) hSC n hn (fun v hv => ?_) (fun _ h => by cases h) hs
          rcases List.mem_append.mp hv with hv | hv
          · exact ha v (zent_mem hv)
          · cases List.eq_of_mem_replicate hv
end ZFD
