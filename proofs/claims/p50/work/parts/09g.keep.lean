section ZKP
variable {sc : zM → Prop}
def zFb (sc : zM → Prop) (F : zKt → zR) : Prop := (∃ r, (∀ x, r = some x → sc x.2.2) ∧ ∀ K, F K = r) ∨ (∃ pc ls st σ, sc σ ∧ ∀ K, F K = K pc ls st σ)
theorem zFb_c : zFb sc (fun _ => none) := Or.inl ⟨none, (fun _ h => by cases h), fun _ => rfl⟩
theorem zFb_e {x : Int32 × Int64 × zM} (h : sc x.2.2) : zFb sc (fun _ => some x) := Or.inl ⟨some x, (fun _ q => by cases q; exact h), fun _ => rfl⟩
theorem zFb_k {pc ls st σ} (hs : sc σ) : zFb sc (fun K => K pc ls st σ) := Or.inr ⟨pc, ls, st, σ, hs, fun _ => rfl⟩
theorem zFb_b {b : Bool} {F G : zKt → zR} (hF : zFb sc F) (hG : zFb sc G) : zFb sc (fun K => bif b then F K else G K) := by
  cases b
  · exact hG
  · exact hF
theorem zFb_z {b : Bool} {F G : zKt → zR} (hF : zFb sc F) (hG : zFb sc G) : zFb sc (fun K => zcb b (F K) (G K)) := by
  cases b
  · exact hG
  · exact hF
theorem zFb_g {b : Bool} {F : zKt → zR} (hF : zFb sc F) : zFb sc (fun K => zgd b (F K)) := by
  simp only [zgd_eq]
  exact zFb_z hF zFb_c
theorem zFb_i {P : Prop} {h : Decidable P} {F G : zKt → zR} (hF : zFb sc F) (hG : zFb sc G) : zFb sc (fun K => @ite _ P h (F K) (G K)) := by
  by_cases q : P
  · simp only [if_pos q]; exact hF
  · simp only [if_neg q]; exact hG
theorem zFb_o1 {st} {f : zKt → Int32 → List zV → zR} (h : ∀ x r, zFb sc (fun K => f K x r)) : zFb sc (fun K => zo1 st (f K)) := by
  unfold zo1; split
  · exact h _ _
  · exact zFb_c
theorem zFb_o2 {st} {f : zKt → Int32 → Int32 → List zV → zR} (h : ∀ y x r, zFb sc (fun K => f K y x r)) : zFb sc (fun K => zo2 st (f K)) := by
  unfold zo2; split
  · exact h _ _ _
  · exact zFb_c
theorem zFb_l1 {st} {f : zKt → Int64 → List zV → zR} (h : ∀ x r, zFb sc (fun K => f K x r)) : zFb sc (fun K => zl1 st (f K)) := by
  unfold zl1; split
  · exact h _ _
  · exact zFb_c
theorem zFb_l2 {st} {f : zKt → Int64 → Int64 → List zV → zR} (h : ∀ y x r, zFb sc (fun K => f K y x r)) : zFb sc (fun K => zl2 st (f K)) := by
  unfold zl2; split
  · exact h _ _ _
  · exact zFb_c
theorem zFb_li {st} {f : zKt → Int32 → Int64 → List zV → zR} (h : ∀ y x r, zFb sc (fun K => f K y x r)) : zFb sc (fun K => zli st (f K)) := by
  unfold zli; split
  · exact h _ _ _
  · exact zFb_c
theorem zFb_r1 {st} {f : zKt → Nat → Nat → List zV → zR} (h : ∀ y x r, zFb sc (fun K => f K y x r)) : zFb sc (fun K => zr1 st (f K)) := by
  unfold zr1; split
  · exact h _ _ _
  · exact zFb_c
theorem zFb_ir {st} {f : zKt → Int32 → Nat → Nat → List zV → zR} (h : ∀ i y x r, zFb sc (fun K => f K i y x r)) : zFb sc (fun K => zir st (f K)) := by
  unfold zir; split
  · exact h _ _ _ _
  · exact zFb_c
theorem zFb_iir {st} {f : zKt → Int32 → Int32 → Nat → Nat → List zV → zR} (h : ∀ v i y x r, zFb sc (fun K => f K v i y x r)) : zFb sc (fun K => ziir st (f K)) := by
  unfold ziir; split
  · exact h _ _ _ _ _
  · exact zFb_c
theorem zFb_lir {st} {f : zKt → Int64 → Int32 → Nat → Nat → List zV → zR} (h : ∀ v i y x r, zFb sc (fun K => f K v i y x r)) : zFb sc (fun K => zlir st (f K)) := by
  unfold zlir; split
  · exact h _ _ _ _ _
  · exact zFb_c
theorem zFb_vI {v} {f : zKt → Int32 → zR} (h : ∀ x, zFb sc (fun K => f K x)) : zFb sc (fun K => zvI v (f K)) := by
  unfold zvI; split
  · exact h _
  · exact zFb_c
theorem zFb_vL {v} {f : zKt → Int64 → zR} (h : ∀ x, zFb sc (fun K => f K x)) : zFb sc (fun K => zvL v (f K)) := by
  unfold zvL; split
  · exact h _
  · exact zFb_c
theorem zFb_vR {v} {f : zKt → Nat → Nat → zR} (h : ∀ g x, zFb sc (fun K => f K g x)) : zFb sc (fun K => zvR v (f K)) := by
  unfold zvR; split
  · exact h _ _
  · exact zFb_c
theorem zFb_sw {x df l} {f : zKt → Nat → zR} (h : ∀ t, zFb sc (fun K => f K t)) : zFb sc (fun K => zsw (f K) x df l) := by
  induction l with
  | nil => exact h df
  | cons a l ih =>
    obtain ⟨v, t⟩ := a
    unfold zsw
    exact zFb_i (h t) ih
theorem zFb_cal {rk nx ls rest x} (hs : sc x.2.2) : zFb sc (fun K => zcal rk nx K ls rest x) := by
  unfold zcal; split <;> exact zFb_k hs
theorem zFb_inv {C : zC} {own nx i vf ls st σ} (hC : ∀ j as σ r, C j as σ = some r → sc σ → sc r.2.2) (hs : sc σ) : zFb sc (fun K => zinv C own nx i vf K ls st σ) := by
  unfold zinv
  cases zmd own i with
  | none => exact zFb_c
  | some q =>
    obtain ⟨j, n, rc⟩ := q
    dsimp only
    cases zpop n st [] with
    | none => exact zFb_c
    | some w =>
      obtain ⟨as, rest⟩ := w
      refine zFb_z ?_ zFb_c
      cases hq : C j as σ with
      | none => exact zFb_c
      | some x => exact zFb_cal (hC _ _ _ _ hq hs)
theorem zFb_op {C : zC} {own rk ls st σ} (hC : ∀ j as σ r, C j as σ = some r → sc σ → sc r.2.2) (hSC : zSC sc) (hs : sc σ) (e : zE) : zFb sc (fun K => zop C own rk K ls st σ e) := by
  obtain ⟨ins, nx, tg, c, d, sw, mk⟩ := e
  cases ins
  case ifCond cnd off => cases cnd <;> exact zFb_o1 fun _ _ => zFb_i (zFb_k hs) (zFb_k hs)
  case if_icmp cnd off => cases cnd <;> exact zFb_o2 fun _ _ _ => zFb_i (zFb_k hs) (zFb_k hs)
  case iadd => exact zFb_o2 fun _ _ _ => (zFb_k hs)
  case isub => exact zFb_o2 fun _ _ _ => (zFb_k hs)
  case imul => exact zFb_o2 fun _ _ _ => (zFb_k hs)
  case iand => exact zFb_o2 fun _ _ _ => (zFb_k hs)
  case ior => exact zFb_o2 fun _ _ _ => (zFb_k hs)
  case ixor => exact zFb_o2 fun _ _ _ => (zFb_k hs)
  case ishl => exact zFb_o2 fun _ _ _ => (zFb_k hs)
  case ishr => exact zFb_o2 fun _ _ _ => (zFb_k hs)
  case iushr => exact zFb_o2 fun _ _ _ => (zFb_k hs)
  case idiv => exact zFb_o2 fun _ _ _ => zFb_i zFb_c (zFb_k hs)
  case irem => exact zFb_o2 fun _ _ _ => zFb_i zFb_c (zFb_k hs)
  case ineg => exact zFb_o1 fun _ _ => (zFb_k hs)
  case i2l => exact zFb_o1 fun _ _ => (zFb_k hs)
  case i2b => exact zFb_o1 fun _ _ => (zFb_k hs)
  case i2s => exact zFb_o1 fun _ _ => (zFb_k hs)
  case i2c => exact zFb_o1 fun _ _ => (zFb_k hs)
  case istore => exact zFb_o1 fun _ _ => (zFb_k hs)
  case istore_n => exact zFb_o1 fun _ _ => (zFb_k hs)
  case lstore_n => exact zFb_l1 fun _ _ => (zFb_k hs)
  case l2i => exact zFb_l1 fun _ _ => (zFb_k hs)
  case ladd => exact zFb_l2 fun _ _ _ => (zFb_k hs)
  case lmul => exact zFb_l2 fun _ _ _ => (zFb_k hs)
  case land => exact zFb_l2 fun _ _ _ => (zFb_k hs)
  case lor => exact zFb_l2 fun _ _ _ => (zFb_k hs)
  case lcmp => exact zFb_l2 fun _ _ _ => (zFb_k hs)
  case lshl => exact zFb_li fun _ _ _ => (zFb_k hs)
  case lshr => exact zFb_li fun _ _ _ => (zFb_k hs)
  case lushr => exact zFb_li fun _ _ _ => (zFb_k hs)
  case iload => exact zFb_vI fun _ => (zFb_k hs)
  case iload_n => exact zFb_vI fun _ => (zFb_k hs)
  case iinc => exact zFb_vI fun _ => (zFb_k hs)
  case lload => exact zFb_vL fun _ => (zFb_k hs)
  case lload_n => exact zFb_vL fun _ => (zFb_k hs)
  case aload_n => exact zFb_vR fun _ _ => zFb_z zFb_c (zFb_k hs)
  case iconst => exact (zFb_k hs)
  case bipush => exact (zFb_k hs)
  case sipush => exact (zFb_k hs)
  case lconst => exact (zFb_k hs)
  case ldc_w => exact (zFb_k hs)
  case ldc2_w => exact (zFb_k hs)
  case goto => exact (zFb_k hs)
  case ldc i =>
    simp only [zop]
    split <;> exact (zFb_k hs)
  case dup =>
    simp only [zop]
    split <;> first | exact (zFb_k hs) | exact zFb_c
  case pop =>
    simp only [zop]
    split <;> first | exact (zFb_k hs) | exact zFb_c
  case dup2 => exact zFb_ir fun _ _ _ _ => (zFb_k hs)
  case tableswitch => exact zFb_o1 fun _ _ => zFb_sw fun _ => (zFb_k hs)
  case lookupswitch => exact zFb_o1 fun _ _ => zFb_sw fun _ => (zFb_k hs)
  case invokevirtual => exact zFb_inv hC hs
  case invokestatic => exact zFb_inv hC hs
  case ireturn =>
    simp only [zop]
    split
    · split
      · exact zFb_e hs
      · exact zFb_g (zFb_e hs)
    · exact zFb_c
  case lreturn =>
    simp only [zop]
    split
    · exact zFb_z (zFb_e hs) zFb_c
    · exact zFb_c
  case return_ =>
    simp only [zop]
    split
    · exact zFb_z (zFb_e hs) zFb_c
    · exact zFb_c
  case getfield i =>
    refine zFb_r1 fun g k r => ?_
    split
    · exact zFb_c
    · split
      · refine zFb_z ?_ zFb_c
        split <;> exact (zFb_k hs)
      · refine zFb_z ?_ zFb_c
        split <;> exact (zFb_k hs)
      · exact zFb_c
  case putfield i =>
    simp only [zop]
    split
    · split
      · exact zFb_c
      · split
        · rename_i hk
          exact zFb_z (zFb_z (zFb_g (zFb_k (hSC.1 _ _ _ _ _ (by rw [hk]; exact Nat.zero_le _) hs))) (zFb_k (hSC.1 _ _ _ _ _ (by rw [hk]; exact Nat.zero_le _) hs))) zFb_c
        · exact zFb_c
    · exact zFb_c
  case getstatic i =>
    simp only [zop]
    split <;> first | exact (zFb_k hs) | exact zFb_c
  case iaload =>
    refine zFb_ir fun i g k r => ?_
    split
    · split
      · exact zFb_g (zFb_k hs)
      · exact zFb_z (zFb_k hs) zFb_c
    · exact zFb_g (zFb_k hs)
    · exact zFb_c
  case laload =>
    refine zFb_ir fun i g k r => ?_
    split <;> first | exact zFb_g (zFb_k hs) | exact zFb_c
  case aaload =>
    refine zFb_ir fun i g k r => ?_
    split <;> first | exact zFb_g (zFb_k hs) | exact zFb_c
  case baload =>
    refine zFb_ir fun i g k r => ?_
    split <;> first | exact zFb_g (zFb_k hs) | exact zFb_c
  case iastore =>
    refine zFb_iir fun v i g k r => ?_
    split
    · rename_i hk
      split
      · exact zFb_g (zFb_k (hSC.1 _ _ _ _ _ (by rw [hk]; exact Nat.le_succ 1) hs))
      · exact zFb_z (zFb_k (hSC.1 _ _ _ _ _ (by rw [hk]; exact Nat.le_succ 1) hs)) zFb_c
    · exact zFb_c
  case lastore =>
    refine zFb_lir fun v i g k r => ?_
    split
    · rename_i hk
      exact zFb_g (zFb_k (hSC.2.1 _ _ _ _ _ (by rw [hk]; exact Nat.le_refl 2) hs))
    · exact zFb_c
  case arraylength =>
    refine zFb_r1 fun g k r => ?_
    split <;> first | exact (zFb_k hs) | exact zFb_c
  all_goals exact zFb_c
theorem zFb_st {C : zC} {T : zT} {pc ls st σ} (hC : ∀ j as σ r, C j as σ = some r → sc σ → sc r.2.2) (hSC : zSC sc) (hs : sc σ) : zFb sc (fun K => zst C T K pc ls st σ) := by
  unfold zst
  split
  · exact zFb_c
  · exact zFb_op hC hSC hs _
theorem zrF_sc {C : zC} {T : zT} (hC : ∀ j as σ r, C j as σ = some r → sc σ → sc r.2.2) (hSC : zSC sc) : ∀ (n : Nat) {pc ls st σ r}, zrF C T n pc ls st σ = some r → sc σ → sc r.2.2
  | 0, _, _, _, _, _, h, _ => by cases h
  | n + 1, pc, ls, st, σ, r, h, hs => by
    rcases zFb_st (C := C) (T := T) (pc := pc) (ls := ls) (st := st) (σ := σ) hC hSC hs with ⟨q, h1, hq⟩ | ⟨p2, l2, s2, m2, h1, hq⟩
    · exact h1 r ((hq (zrF C T n)).symm.trans h)
    · exact zrF_sc hC hSC n ((hq (zrF C T n)).symm.trans h) h1
theorem zcopy_sc (hSC : zSC sc) {as σ r} (h : zcopy as σ = some r) (hs : sc σ) : sc r.2.2 := by
  unfold zcopy at h
  split at h
  · split at h
    · rename_i hk1 hk2
      have h2 : ∀ (bb : Bool) (x : zR), (bif bb then x else none) = some r → x = some r := by
        intro bb x h
        cases bb
        · cases h
        · exact h
      have h3 := h2 _ _ h
      cases h3
      exact hSC.2.2 _ _ _ _ _ _ _ _ (by rw [hk2]; exact Nat.le_succ 1) hs
    · cases h
  · cases h
theorem zev_sc (hSC : zSC sc) : ∀ (d : Nat) j as σ r, zev d j as σ = some r → sc σ → sc r.2.2
  | 0, _, _, _, _, h, _ => by cases h
  | d + 1, j, as, σ, r, h, hs => by
    cases hb : zbi j with
    | some f =>
      rw [zev_b hb] at h
      rcases zbi_cases hb with ⟨-, rfl⟩ | ⟨-, rfl⟩ | ⟨-, rfl⟩
      · exact zcopy_sc hSC h hs
      · unfold zmx at h
        split at h
        · cases h; exact hs
        · cases h
      · unfold zmn at h
        split at h
        · cases h; exact hs
        · cases h
    | none =>
      cases hT : zTL[j]? with
      | none =>
        have : zev (d + 1) j as σ = none := by
          show (match zbi j with | some f => f as σ | none => _) = _
          rw [hb, hT]
        rw [this] at h
        cases h
      | some T =>
        cases hl : Nat.ble (zent as).length T.2.2.2 with
        | false =>
          have : zev (d + 1) j as σ = none := by
            show (match zbi j with | some f => f as σ | none => _) = _
            rw [hb, hT]
            show zcb (Nat.ble (zent as).length T.2.2.2) _ none = _
            rw [hl]
            rfl
          rw [this] at h
          cases h
        | true =>
          rw [zev_m hT hb hl] at h
          obtain ⟨n, hn⟩ := zrun_some h
          exact zrF_sc (fun j as σ r => zev_sc hSC d j as σ r) hSC n hn hs
end ZKP
