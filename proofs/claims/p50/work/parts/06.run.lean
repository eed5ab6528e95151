def zFa (F : zKt → zR) : Prop := (∃ r, ∀ K, F K = r) ∨ (∃ pc ls st σ, ∀ K, F K = K pc ls st σ)
theorem zFa_c {r : zR} : zFa (fun _ => r) := Or.inl ⟨r, fun _ => rfl⟩
theorem zFa_k {pc ls st σ} : zFa (fun K => K pc ls st σ) := Or.inr ⟨pc, ls, st, σ, fun _ => rfl⟩
theorem zFa_b {b : Bool} {F G : zKt → zR} (hF : zFa F) (hG : zFa G) : zFa (fun K => bif b then F K else G K) := by
  cases b
  · exact hG
  · exact hF
theorem zFa_z {b : Bool} {F G : zKt → zR} (hF : zFa F) (hG : zFa G) : zFa (fun K => zcb b (F K) (G K)) := by
  cases b
  · exact hG
  · exact hF
theorem zFa_g {b : Bool} {F : zKt → zR} (hF : zFa F) : zFa (fun K => zgd b (F K)) := by
  simp only [zgd_eq]
  exact zFa_z hF zFa_c
theorem zFa_i {P : Prop} {h : Decidable P} {F G : zKt → zR} (hF : zFa F) (hG : zFa G) : zFa (fun K => @ite _ P h (F K) (G K)) := by
  by_cases q : P
  · simp only [if_pos q]; exact hF
  · simp only [if_neg q]; exact hG
theorem zFa_o1 {st} {f : zKt → Int32 → List zV → zR} (h : ∀ x r, zFa (fun K => f K x r)) : zFa (fun K => zo1 st (f K)) := by
  unfold zo1; split
  · exact h _ _
  · exact zFa_c
theorem zFa_o2 {st} {f : zKt → Int32 → Int32 → List zV → zR} (h : ∀ y x r, zFa (fun K => f K y x r)) : zFa (fun K => zo2 st (f K)) := by
  unfold zo2; split
  · exact h _ _ _
  · exact zFa_c
theorem zFa_l1 {st} {f : zKt → Int64 → List zV → zR} (h : ∀ x r, zFa (fun K => f K x r)) : zFa (fun K => zl1 st (f K)) := by
  unfold zl1; split
  · exact h _ _
  · exact zFa_c
theorem zFa_l2 {st} {f : zKt → Int64 → Int64 → List zV → zR} (h : ∀ y x r, zFa (fun K => f K y x r)) : zFa (fun K => zl2 st (f K)) := by
  unfold zl2; split
  · exact h _ _ _
  · exact zFa_c
theorem zFa_li {st} {f : zKt → Int32 → Int64 → List zV → zR} (h : ∀ y x r, zFa (fun K => f K y x r)) : zFa (fun K => zli st (f K)) := by
  unfold zli; split
  · exact h _ _ _
  · exact zFa_c
theorem zFa_r1 {st} {f : zKt → Nat → Nat → List zV → zR} (h : ∀ y x r, zFa (fun K => f K y x r)) : zFa (fun K => zr1 st (f K)) := by
  unfold zr1; split
  · exact h _ _ _
  · exact zFa_c
theorem zFa_ir {st} {f : zKt → Int32 → Nat → Nat → List zV → zR} (h : ∀ i y x r, zFa (fun K => f K i y x r)) : zFa (fun K => zir st (f K)) := by
  unfold zir; split
  · exact h _ _ _ _
  · exact zFa_c
theorem zFa_iir {st} {f : zKt → Int32 → Int32 → Nat → Nat → List zV → zR} (h : ∀ v i y x r, zFa (fun K => f K v i y x r)) : zFa (fun K => ziir st (f K)) := by
  unfold ziir; split
  · exact h _ _ _ _ _
  · exact zFa_c
theorem zFa_lir {st} {f : zKt → Int64 → Int32 → Nat → Nat → List zV → zR} (h : ∀ v i y x r, zFa (fun K => f K v i y x r)) : zFa (fun K => zlir st (f K)) := by
  unfold zlir; split
  · exact h _ _ _ _ _
  · exact zFa_c
theorem zFa_vI {v} {f : zKt → Int32 → zR} (h : ∀ x, zFa (fun K => f K x)) : zFa (fun K => zvI v (f K)) := by
  unfold zvI; split
  · exact h _
  · exact zFa_c
theorem zFa_vL {v} {f : zKt → Int64 → zR} (h : ∀ x, zFa (fun K => f K x)) : zFa (fun K => zvL v (f K)) := by
  unfold zvL; split
  · exact h _
  · exact zFa_c
theorem zFa_vR {v} {f : zKt → Nat → Nat → zR} (h : ∀ g x, zFa (fun K => f K g x)) : zFa (fun K => zvR v (f K)) := by
  unfold zvR; split
  · exact h _ _
  · exact zFa_c
theorem zFa_sw {x df l} {f : zKt → Nat → zR} (h : ∀ t, zFa (fun K => f K t)) : zFa (fun K => zsw (f K) x df l) := by
  induction l with
  | nil => exact h df
  | cons a l ih =>
    obtain ⟨v, t⟩ := a
    unfold zsw
    exact zFa_i (h t) ih
theorem zFa_cal {rk nx ls rest x} : zFa (fun K => zcal rk nx K ls rest x) := by
  unfold zcal; split <;> exact zFa_k
theorem zFa_inv {C : zC} {own nx i vf ls st σ} : zFa (fun K => zinv C own nx i vf K ls st σ) := by
  unfold zinv
  cases zmd own i with
  | none => exact zFa_c
  | some q =>
    obtain ⟨j, n, rc⟩ := q
    dsimp only
    cases zpop n st [] with
    | none => exact zFa_c
    | some w =>
      obtain ⟨as, rest⟩ := w
      refine zFa_z ?_ zFa_c
      cases C j as σ with
      | none => exact zFa_c
      | some x => exact zFa_cal
theorem zFa_op {C : zC} {own rk ls st σ} (e : zE) : zFa (fun K => zop C own rk K ls st σ e) := by
  obtain ⟨ins, nx, tg, c, d, sw, mk⟩ := e
  cases ins
  case ifCond cnd off => cases cnd <;> exact zFa_o1 fun _ _ => zFa_i zFa_k zFa_k
  case if_icmp cnd off => cases cnd <;> exact zFa_o2 fun _ _ _ => zFa_i zFa_k zFa_k
  case iadd => exact zFa_o2 fun _ _ _ => zFa_k
  case isub => exact zFa_o2 fun _ _ _ => zFa_k
  case imul => exact zFa_o2 fun _ _ _ => zFa_k
  case iand => exact zFa_o2 fun _ _ _ => zFa_k
  case ior => exact zFa_o2 fun _ _ _ => zFa_k
  case ixor => exact zFa_o2 fun _ _ _ => zFa_k
  case ishl => exact zFa_o2 fun _ _ _ => zFa_k
  case ishr => exact zFa_o2 fun _ _ _ => zFa_k
  case iushr => exact zFa_o2 fun _ _ _ => zFa_k
  case idiv => exact zFa_o2 fun _ _ _ => zFa_i zFa_c zFa_k
  case irem => exact zFa_o2 fun _ _ _ => zFa_i zFa_c zFa_k
  case ineg => exact zFa_o1 fun _ _ => zFa_k
  case i2l => exact zFa_o1 fun _ _ => zFa_k
  case i2b => exact zFa_o1 fun _ _ => zFa_k
  case i2s => exact zFa_o1 fun _ _ => zFa_k
  case i2c => exact zFa_o1 fun _ _ => zFa_k
  case istore => exact zFa_o1 fun _ _ => zFa_k
  case istore_n => exact zFa_o1 fun _ _ => zFa_k
  case lstore_n => exact zFa_l1 fun _ _ => zFa_k
  case l2i => exact zFa_l1 fun _ _ => zFa_k
  case ladd => exact zFa_l2 fun _ _ _ => zFa_k
  case lmul => exact zFa_l2 fun _ _ _ => zFa_k
  case land => exact zFa_l2 fun _ _ _ => zFa_k
  case lor => exact zFa_l2 fun _ _ _ => zFa_k
  case lcmp => exact zFa_l2 fun _ _ _ => zFa_k
  case lshl => exact zFa_li fun _ _ _ => zFa_k
  case lshr => exact zFa_li fun _ _ _ => zFa_k
  case lushr => exact zFa_li fun _ _ _ => zFa_k
  case iload => exact zFa_vI fun _ => zFa_k
  case iload_n => exact zFa_vI fun _ => zFa_k
  case iinc => exact zFa_vI fun _ => zFa_k
  case lload => exact zFa_vL fun _ => zFa_k
  case lload_n => exact zFa_vL fun _ => zFa_k
  case aload_n => exact zFa_vR fun _ _ => zFa_z zFa_c zFa_k
  case iconst => exact zFa_k
  case bipush => exact zFa_k
  case sipush => exact zFa_k
  case lconst => exact zFa_k
  case ldc_w => exact zFa_k
  case ldc2_w => exact zFa_k
  case goto => exact zFa_k
  case ldc i =>
    simp only [zop]
    split <;> exact zFa_k
  case dup =>
    simp only [zop]
    split <;> first | exact zFa_k | exact zFa_c
  case pop =>
    simp only [zop]
    split <;> first | exact zFa_k | exact zFa_c
  case dup2 => exact zFa_ir fun _ _ _ _ => zFa_k
  case tableswitch => exact zFa_o1 fun _ _ => zFa_sw fun _ => zFa_k
  case lookupswitch => exact zFa_o1 fun _ _ => zFa_sw fun _ => zFa_k
  case invokevirtual => exact zFa_inv
  case invokestatic => exact zFa_inv
  case ireturn =>
    simp only [zop]
    split
    · split <;> exact zFa_c
    · exact zFa_c
  case lreturn =>
    simp only [zop]
    split <;> exact zFa_c
  case return_ =>
    simp only [zop]
    split <;> exact zFa_c
  case getfield i =>
    refine zFa_r1 fun g k r => ?_
    split
    · exact zFa_c
    · split
      · refine zFa_z ?_ zFa_c
        split <;> exact zFa_k
      · refine zFa_z ?_ zFa_c
        split <;> exact zFa_k
      · exact zFa_c
  case putfield i =>
    simp only [zop]
    split
    · split
      · exact zFa_c
      · split
        · exact zFa_z (zFa_z (zFa_g zFa_k) zFa_k) zFa_c
        · exact zFa_c
    · exact zFa_c
  case getstatic i =>
    simp only [zop]
    split <;> first | exact zFa_k | exact zFa_c
  case iaload =>
    refine zFa_ir fun i g k r => ?_
    split
    · split
      · exact zFa_g zFa_k
      · exact zFa_z zFa_k zFa_c
    · exact zFa_g zFa_k
    · exact zFa_c
  case laload =>
    refine zFa_ir fun i g k r => ?_
    split <;> first | exact zFa_g zFa_k | exact zFa_c
  case aaload =>
    refine zFa_ir fun i g k r => ?_
    split <;> first | exact zFa_g zFa_k | exact zFa_c
  case baload =>
    refine zFa_ir fun i g k r => ?_
    split <;> first | exact zFa_g zFa_k | exact zFa_c
  case iastore =>
    refine zFa_iir fun v i g k r => ?_
    split
    · split
      · exact zFa_g zFa_k
      · exact zFa_z zFa_k zFa_c
    · exact zFa_c
  case lastore =>
    refine zFa_lir fun v i g k r => ?_
    split <;> first | exact zFa_g zFa_k | exact zFa_c
  case arraylength =>
    refine zFa_r1 fun g k r => ?_
    split <;> first | exact zFa_k | exact zFa_c
  all_goals exact zFa_c
theorem zFa_st {C : zC} {T : zT} {pc ls st σ} : zFa (fun K => zst C T K pc ls st σ) := by
  unfold zst
  split
  · exact zFa_c
  · exact zFa_op _
theorem zrF_mono {C : zC} {T : zT} : ∀ (n : Nat) {pc ls st σ r}, zrF C T n pc ls st σ = some r → zrF C T (n + 1) pc ls st σ = some r
  | 0, _, _, _, _, _, h => by cases h
  | n + 1, pc, ls, st, σ, r, h => by
    rcases zFa_st (C := C) (T := T) (pc := pc) (ls := ls) (st := st) (σ := σ) with ⟨q, hq⟩ | ⟨p2, l2, s2, m2, hq⟩
    · exact (hq (zrF C T (n + 1))).trans ((hq (zrF C T n)).symm.trans h)
    · exact (hq (zrF C T (n + 1))).trans (zrF_mono n ((hq (zrF C T n)).symm.trans h))
theorem zrF_add {C : zC} {T : zT} {n : Nat} {pc ls st σ r} (h : zrF C T n pc ls st σ = some r) : ∀ k, zrF C T (n + k) pc ls st σ = some r
  | 0 => h
  | k + 1 => zrF_mono (n + k) (zrF_add h k)
theorem zrF_det {C : zC} {T : zT} {n m : Nat} {pc ls st σ r q} (h : zrF C T n pc ls st σ = some r) (h2 : zrF C T m pc ls st σ = some q) : r = q := by
  have a := zrF_add h m
  have b := zrF_add h2 n
  rw [Nat.add_comm] at b
  exact Option.some.inj (a.symm.trans b)
theorem zrun_of {C : zC} {T : zT} {n : Nat} {pc ls st σ r} (h : zrF C T n pc ls st σ = some r) : zrun C T pc ls st σ = some r := by
  have hx : ∃ r, ∃ n, zrF C T n pc ls st σ = some r := ⟨r, n, h⟩
  have e : zrun C T pc ls st σ = some (Classical.choose hx) := by
    unfold zrun
    exact dif_pos hx
  obtain ⟨m, hm⟩ := Classical.choose_spec hx
  rw [e, zrF_det hm h]
theorem zrun_some {C : zC} {T : zT} {pc ls st σ r} (h : zrun C T pc ls st σ = some r) : ∃ n, zrF C T n pc ls st σ = some r := by
  by_cases hx : ∃ r, ∃ n, zrF C T n pc ls st σ = some r
  · obtain ⟨q, n, hq⟩ := hx
    rw [zrun_of hq] at h
    exact ⟨n, by rw [hq]; exact h⟩
  · unfold zrun at h
    rw [dif_neg hx] at h
    cases h
theorem zrun_none {C : zC} {T : zT} {pc ls st σ} (h : ∀ n, zrF C T n pc ls st σ = none) : zrun C T pc ls st σ = none := by
  cases e : zrun C T pc ls st σ with
  | none => rfl
  | some r =>
    obtain ⟨n, hn⟩ := zrun_some e
    rw [h n] at hn
    cases hn
theorem zrun_step (C : zC) (T : zT) (pc ls st σ) : zrun C T pc ls st σ = zst C T (zrun C T) pc ls st σ := by
  rcases zFa_st (C := C) (T := T) (pc := pc) (ls := ls) (st := st) (σ := σ) with ⟨q, hq⟩ | ⟨p2, l2, s2, m2, hq⟩
  · rw [show zst C T (zrun C T) pc ls st σ = q from hq _]
    cases q with
    | none =>
      refine zrun_none fun n => ?_
      cases n with
      | zero => rfl
      | succ n => exact hq _
    | some r => exact zrun_of (n := 1) (hq _)
  · rw [show zst C T (zrun C T) pc ls st σ = zrun C T p2 l2 s2 m2 from hq _]
    cases e : zrun C T p2 l2 s2 m2 with
    | some r =>
      obtain ⟨n, hn⟩ := zrun_some e
      exact zrun_of (n := n + 1) ((hq _).trans hn)
    | none =>
      refine zrun_none fun n => ?_
      cases n with
      | zero => rfl
      | succ n =>
        refine (hq _).trans ?_
        cases e2 : zrF C T n p2 l2 s2 m2 with
        | none => rfl
        | some r => rw [zrun_of e2] at e; cases e
theorem zit_run (C : zC) (T : zT) (cuts : List Nat) : ∀ n pc ls st σ, zit C T cuts n pc ls st σ = zrun C T pc ls st σ
  | 0, _, _, _, _ => rfl
  | n + 1, pc, ls, st, σ => by
    show zcb (cuts.any (Nat.beq pc)) (zrun C T pc ls st σ) (zst C T (zit C T cuts n) pc ls st σ) = _
    cases cuts.any (Nat.beq pc)
    · show zst C T (zit C T cuts n) pc ls st σ = _
      rw [zrun_step, show zit C T cuts n = zrun C T from funext fun a => funext fun b => funext fun c => funext fun d => zit_run C T cuts n a b c d]
    · rfl
theorem zrun_eq (C : zC) (T : zT) (cuts : List Nat) (n : Nat) (pc ls st σ) : zrun C T pc ls st σ = zst C T (zit C T cuts n) pc ls st σ := by
  rw [zrun_step, show zit C T cuts n = zrun C T from funext fun a => funext fun b => funext fun c => funext fun d => zit_run C T cuts n a b c d]
def zent : List zV → List (Option zV)
  | [] => []
  | .inr (.inl x) :: r => some (.inr (.inl x)) :: none :: zent r
  | v :: r => some v :: zent r
def zpad (n : Nat) (l : zL) : zL := l ++ List.replicate (n - l.length) none
def zcop (σ : zM) (g k sp g2 k2 dp n : Nat) : zM := (fun g' k' i' => if g' = g2 ∧ k' = k2 ∧ dp ≤ i' ∧ i' < dp + n then σ.1 g k (sp + (i' - dp)) else σ.1 g' k' i', σ.2)
def zcopy : List zV → zM → zR
  | [.inr (.inr (g, k)), .inl sp, .inr (.inr (g2, k2)), .inl dp, .inl n], σ => match zkd k, zkd k2 with
    | (1, a), (1, b) => bif decide (0 ≤ sp) && decide (0 ≤ dp) && decide (0 ≤ n) && Nat.ble (sp.toNatClampNeg + n.toNatClampNeg) a && Nat.ble (dp.toNatClampNeg + n.toNatClampNeg) b then some (0, 0, zcop σ g k sp.toNatClampNeg g2 k2 dp.toNatClampNeg n.toNatClampNeg) else none
    | _, _ => none
  | _, _ => none
def zmx : List zV → zM → zR
  | [.inl x, .inl y], σ => some (if x < y then y else x, 0, σ)
  | _, _ => none
def zmn : List zV → zM → zR
  | [.inl x, .inl y], σ => some (if y < x then y else x, 0, σ)
  | _, _ => none
def zbi (j : Nat) : Option (List zV → zM → zR) := bif Nat.beq j zNAC then some zcopy else bif Nat.beq j zMAX then some zmx else bif Nat.beq j zMIN then some zmn else none
noncomputable def zev : Nat → zC
  | 0 => fun _ _ _ => none
  | d + 1 => fun j as σ => match zbi j with
    | some f => f as σ
    | none => match zTL[j]? with
      | none => none
      | some T => zcb (Nat.ble (zent as).length T.2.2.2) (zrun (zev d) T 0 (zpad T.2.2.2 (zent as)) [] σ) none
theorem zev_m {d j : Nat} {T : zT} {as σ} (h : zTL[j]? = some T) (hj : zbi j = none) (hl : Nat.ble (zent as).length T.2.2.2 = true) : zev (d + 1) j as σ = zrun (zev d) T 0 (zpad T.2.2.2 (zent as)) [] σ := by
  show (match zbi j with | some f => f as σ | none => _) = _
  rw [hj, h]
  show zcb (Nat.ble (zent as).length T.2.2.2) _ none = _
  rw [hl]
  rfl
theorem zev_b {d j : Nat} {f} {as σ} (hj : zbi j = some f) : zev (d + 1) j as σ = f as σ := by
  show (match zbi j with | some f => f as σ | none => _) = _
  rw [hj]
