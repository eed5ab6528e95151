section YS4
variable {p : Program} {l : Launch} {e : Env} {R : Room} {s : State} {m : MethodId} {args : Array Value} {below : List Frame} {meth : Method} {c : Code} {Q : State → Prop} {E : zEn} {z nL d j this : Nat} {b : ByteArray} {C : Nat → Nat → List yC → Option (List yC)} {K : yKt} {r : List yC}
theorem yArr (hx : yCx p R s m args meth c E z nL d j b) : ArrOfT s (E.2.1 1) .int := by
  have hw := hx.2.2.2.2.1 _ yw_arr.1
  obtain ⟨c0, k0, comp, h1, h2, h3⟩ := Cond.arrayClass_spec hw
  have h4 := (hx.2.2.2.2.2.1.2.1 1 (Or.inl rfl)).1
  have : c0 = E.2.1 1 := Option.some.inj (h1.symm.trans h4)
  subst this
  exact fun n z => ⟨fun k h => (by cases h), k0, h2, comp, h3⟩
theorem yck_d {pc : Nat} {q : ClassFile.Instr × Nat × Int32 × Nat} (h : yck b nL (pc, q) = true) : decode b pc = .ok (q.1, q.2.1) := by
  unfold yck at h
  simp only [Bool.and_eq_true, decide_eq_true_eq] at h
  exact h.1
theorem ylen {pc n len : Nat} {i : ClassFile.Instr} (hd : decode b pc = .ok (i, len)) (h : Nat.beq len n = true) : len = n ∧ decode b pc = .ok (i, n) := by
  have := Nat.eq_of_beq_eq_true h
  subst this
  exact ⟨rfl, hd⟩
theorem yls0 {lsA : Array Slot} {l1 : Option Int32} (h : lv_has lsA nL (yls z this l1)) : lsA[0]? = some (.val (.ref (z + this))) := by
  cases l1 <;> exact h.2.2 (0, _) List.mem_cons_self
theorem ys_op (q : ClassFile.Instr × Nat × Int32 × Nat) {pc : Nat} {l1 st hs cs ss} (hx : yCx p R s m args meth c E z nL d j b) (hC : yCok l E z d C) (hF : yFin p l e R s m args below meth c Q E z j b r) (ih : yIH p l e R s m args below meth c Q E z nL this K r) (hc : yck b nL (pc, q) = true) (h : yop C j this pc K l1 st hs cs ss q = some r) : yX p l e R s m args below meth c Q E z nL this pc l1 st hs cs ss := by
  have hd := yck_d hc
  obtain ⟨ins, len, cst, tg⟩ := q
  unfold yck at hc
  simp only [Bool.and_eq_true] at hc
  obtain ⟨-, hc⟩ := hc
  dsimp only at hd hc
  cases ins
  case aload_n a =>
    obtain ⟨rfl, hd⟩ := ylen hd hc
    obtain ⟨h0, h⟩ := ycb_some h
    intro H locs lsA hH hS hL
    exact lv_aload_n hx.1 hx.2.1 hd (Nat.eq_of_beq_eq_true h0) (yls0 hL) (ih _ _ _ _ _ _ h H locs lsA hH hS hL)
  case iconst n =>
    simp only [Bool.and_eq_true, decide_eq_true_eq] at hc
    obtain ⟨hv, hc⟩ := hc
    obtain ⟨rfl, hd⟩ := ylen hd hc
    intro H locs lsA hH hS hL
    exact lv_iconst hx.1 hx.2.1 hd hv (ih _ _ _ _ _ _ h H locs lsA hH hS hL)
  case bipush n =>
    simp only [Bool.and_eq_true, decide_eq_true_eq] at hc
    obtain ⟨hv, hc⟩ := hc
    obtain ⟨rfl, hd⟩ := ylen hd hc
    intro H locs lsA hH hS hL
    exact lv_bipush hx.1 hx.2.1 hd hv (ih _ _ _ _ _ _ h H locs lsA hH hS hL)
  case sipush n =>
    simp only [Bool.and_eq_true, decide_eq_true_eq] at hc
    obtain ⟨hv, hc⟩ := hc
    obtain ⟨rfl, hd⟩ := ylen hd hc
    intro H locs lsA hH hS hL
    exact lv_sipush hx.1 hx.2.1 hd hv (ih _ _ _ _ _ _ h H locs lsA hH hS hL)
  case newarray at_ =>
    obtain ⟨rfl, hd⟩ := ylen hd hc
    cases at_
    case int =>
      simp only [yop] at h
      split at h
      · obtain ⟨h0, h⟩ := ycb_some h
        simp only [Bool.and_eq_true, decide_eq_true_eq] at h0
        exact ys_newarr hx ih hd h0.1 (Nat.le_of_ble_eq_true h0.2.1) (Nat.le_of_ble_eq_true h0.2.2.1) (Nat.le_of_ble_eq_true h0.2.2.2) h
      · cases h
    all_goals cases h
  case multianewarray i dm =>
    obtain ⟨rfl, hd⟩ := ylen hd hc
    clear hc
    revert hd h
    match dm with
    | 2 =>
      intro h hd
      simp only [yop] at h
      split at h
      · rename_i k n r2 _ _ t heq
        obtain ⟨h0, h⟩ := ycb_some h
        simp only [Bool.and_eq_true, decide_eq_true_eq] at h0
        exact ys_multi hx ih hd (yf3 heq) h0.1 h0.2.1 (Nat.le_of_ble_eq_true h0.2.2.1) (Nat.le_of_ble_eq_true h0.2.2.2.1) (Nat.le_of_ble_eq_true h0.2.2.2.2.1) (Nat.le_of_ble_eq_true h0.2.2.2.2.2) h
      · cases h
    | 0 => intro h _; cases h
    | 1 => intro h _; cases h
    | n + 3 => intro h _; cases h
  case new i =>
    obtain ⟨rfl, hd⟩ := ylen hd hc
    simp only [yop] at h
    split at h
    · rename_i _ _ ci heq
      obtain ⟨h0, h⟩ := ycb_some h
      simp only [Bool.and_eq_true] at h0
      exact ys_new hx ih hd (yf3 heq) (Nat.le_of_ble_eq_true h0.1) (Nat.le_of_ble_eq_true h0.2) h
    · cases h
  case dup =>
    obtain ⟨rfl, hd⟩ := ylen hd hc
    simp only [yop] at h
    split at h
    · intro H locs lsA hH hS hL
      exact lv_dup hx.1 hx.2.1 hd (yv_cat z _) (ih _ _ _ _ _ _ h H locs lsA hH hS hL)
    · cases h
  case invokespecial i =>
    obtain ⟨rfl, hd⟩ := ylen hd hc
    simp only [yop] at h
    split at h
    · rename_i o r2 _ _ heq
      obtain ⟨h0, h⟩ := ycb_some h
      exact ys_objInit hx ih hd (yf3 heq) (Nat.le_of_ble_eq_true h0) h
    · rename_i o r2 _ _ j2 heq
      obtain ⟨h0, h⟩ := ycb_some h
      simp only [Bool.and_eq_true] at h0
      cases hcall : C j2 o hs with
      | none => rw [hcall] at h; cases h
      | some hs2 =>
        rw [hcall] at h
        exact ys_call hx hC ih hd (yf3 heq) (Nat.le_of_ble_eq_true h0.1) (Nat.le_of_ble_eq_true h0.2.1) (Nat.le_of_ble_eq_true h0.2.2) hcall h
    · cases h
  case putfield i =>
    obtain ⟨rfl, hd⟩ := ylen hd hc
    simp only [yop] at h
    split at h
    · rename_i v o r2 _ _ f heq
      split at h
      · rename_i ci fs g ho
        obtain ⟨h0, h9⟩ := ycb_some h
        clear h
        simp only [Bool.and_eq_true] at h0
        obtain ⟨h1, h2, h3, h4⟩ := h0
        have := Nat.eq_of_beq_eq_true h1
        subst this
        exact ys_put hx ih hd (yf3 heq) ho (Nat.blt_eq.mp h2) h4 h9
      · cases h
    · cases h
  case getfield i =>
    obtain ⟨rfl, hd⟩ := ylen hd hc
    simp only [yop] at h
    split at h
    · rename_i o r2 _ _ f heq
      split at h
      · rename_i ci fs g ho
        split at h
        · rename_i v hv
          obtain ⟨h0, h9⟩ := ycb_some h
          clear h
          simp only [Bool.and_eq_true] at h0
          obtain ⟨h1, h2⟩ := h0
          have := Nat.eq_of_beq_eq_true h1
          subst this
          exact ys_get hx ih hd (yf3 heq) ho hv h9
        · cases h
      · cases h
    · cases h
  case iastore =>
    obtain ⟨rfl, hd⟩ := ylen hd hc
    simp only [yop] at h
    split at h
    · rename_i x i o r2
      split at h
      · rename_i n fs g ho
        obtain ⟨h0, h⟩ := ycb_some h
        exact ys_iast hx ih hd ho h0 (fun w => (yArr hx) n w) h
      · cases h
    · cases h
  case istore_n a =>
    simp only [Bool.and_eq_true] at hc
    obtain ⟨rfl, hd⟩ := ylen hd hc.1
    have hn := Nat.blt_eq.mp hc.2
    simp only [yop] at h
    split at h
    · rename_i x r2
      obtain ⟨h0, h⟩ := ycb_some h
      intro H locs lsA hH hS hL
      refine lv_istore_n hx.1 hx.2.1 hd (Nat.eq_of_beq_eq_true h0) hL hn rfl (fun ls' hL' => ?_)
      refine ih _ _ _ _ _ _ h H locs ls' hH hS (lv_less hL' fun q hq => ?_)
      rcases List.mem_cons.mp hq with hq | hq
      · subst hq
        refine List.mem_cons_of_mem _ (List.mem_filter.mpr ⟨?_, rfl⟩)
        cases l1 <;> exact List.mem_cons_self
      · rcases List.mem_cons.mp hq with hq | hq
        · subst hq
          exact List.mem_cons_self
        · cases hq
    · cases h
  case iload_n a =>
    obtain ⟨rfl, hd⟩ := ylen hd hc
    cases l1 with
    | none => cases h
    | some x =>
      obtain ⟨h0, h⟩ := ycb_some h
      intro H locs lsA hH hS hL
      exact lv_iload_n hx.1 hx.2.1 hd (Nat.eq_of_beq_eq_true h0) (hL.2.2 (1, _) (List.mem_cons_of_mem _ List.mem_cons_self)) (ih _ _ _ _ _ _ h H locs lsA hH hS hL)
  case iinc a n =>
    simp only [Bool.and_eq_true, decide_eq_true_eq] at hc
    obtain ⟨hv, hc, hn⟩ := hc
    obtain ⟨rfl, hd⟩ := ylen hd hc
    cases l1 with
    | none => cases h
    | some x =>
      obtain ⟨h0, h⟩ := ycb_some h
      have h0 := Nat.eq_of_beq_eq_true h0
      subst h0
      intro H locs lsA hH hS hL
      refine lv_iinc hx.1 hx.2.1 hd hL (k := 1) rfl (v := x + cst) (by rw [hv]) (Nat.blt_eq.mp hn) rfl (fun ls' hL' => ?_)
      refine ih _ _ _ _ _ _ h H locs ls' hH hS (lv_less hL' fun q hq => ?_)
      rcases List.mem_cons.mp hq with hq | hq
      · subst hq
        exact List.mem_cons_of_mem _ (List.mem_filter.mpr ⟨List.mem_cons_self, rfl⟩)
      · rcases List.mem_cons.mp hq with hq | hq
        · subst hq
          exact List.mem_cons_self
        · cases hq
  case if_icmp cnd off =>
    simp only [Bool.and_eq_true, decide_eq_true_eq] at hc
    obtain ⟨hv, hc⟩ := hc
    obtain ⟨rfl, hd⟩ := ylen hd hc
    cases cnd
    case ge =>
      simp only [yop] at h
      split at h
      · rename_i y x r2
        intro H locs lsA hH hS hL
        exact lv_icmp_ge hx.1 hx.2.1 hd hv (fun q => by rw [if_neg (Int32.not_lt.mpr q)] at h; exact ih _ _ _ _ _ _ h H locs lsA hH hS hL) (fun q => by rw [if_pos (Int32.not_le.mp q)] at h; exact ih _ _ _ _ _ _ h H locs lsA hH hS hL)
      · cases h
    all_goals cases h
  case goto off =>
    simp only [Bool.and_eq_true, decide_eq_true_eq] at hc
    obtain ⟨hv, hc⟩ := hc
    obtain ⟨rfl, hd⟩ := ylen hd hc
    intro H locs lsA hH hS hL
    exact lv_goto hx.1 hx.2.1 hd hv (ih _ _ _ _ _ _ h H locs lsA hH hS hL)
  case return_ =>
    obtain ⟨rfl, hd⟩ := ylen hd hc
    simp only [yop] at h
    split at h
    · obtain ⟨h0, h⟩ := ycb_some h
      simp only [Bool.and_eq_true] at h0
      have h1 := Nat.eq_of_beq_eq_true h0.1
      have h2 := Nat.eq_of_beq_eq_true h0.2
      cases h
      subst h1; subst h2
      intro H locs lsA hH hS hL
      exact hF pc H locs lsA hH hS hd
    · cases h
  all_goals cases h
theorem ys_run (hx : yCx p R s m args meth c E z nL d j b) (hC : yCok l E z d C) (hF : yFin p l e R s m args below meth c Q E z j b r) (hck : ∀ x ∈ yIL.getD j [], yck b nL x = true) : ∀ (n : Nat) (pc : Nat) (l1 st hs cs ss), yrF C j this n pc l1 st hs cs ss = some r → yX p l e R s m args below meth c Q E z nL this pc l1 st hs cs ss
  | 0, _, _, _, _, _, _, h => by cases h
  | n + 1, pc, l1, st, hs, cs, ss, h => by
    have h : (match yas (yIL.getD j []) pc with | none => none | some e => yop C j this pc (yrF C j this n) l1 st hs cs ss e) = some r := h
    cases hq : yas (yIL.getD j []) pc with
    | none => rw [hq] at h; cases h
    | some q =>
      rw [hq] at h
      exact ys_op q hx hC hF (fun pc l1 st hs cs ss h => ys_run hx hC hF hck n pc l1 st hs cs ss h) (hck _ (yas_mem hq)) h
end YS4
theorem yev_sound (l : Launch) (E : zEn) (z : Nat) : ∀ (d : Nat) j this hs hs', j < 13 → yev d j this hs = some hs' → yMt l E z d j this hs hs'
  | 0, _, _, _, _, _, h => by cases h
  | d + 1, j, this, hs, hs', hj, h => by
    obtain ⟨w1, w2, w3, w4, w5, w6, w7, w8, w9, w10⟩ := yJall j hj
    refine Met.ofW (cc := (yY j).2.1) (maxL := (yY j).2.2) (ret := none) w4 rfl ?_
    intro p e s m args below meth c s₁ B hml hv
    obtain ⟨rfl, hH, hK⟩ := hv
    have hts : ∀ w ∈ (Cond.code (yY j).1 (yY j).2.1 (yY j).2.2 none :: zGW), w.before #[.ref (z + this)] s = true := atoms_spec B.pre
    have hx : yCx p (headSpec (Cond.code (yY j).1 (yY j).2.1 (yY j).2.2 none :: zGW) (yRm (d + 1) j)).room s m #[.ref (z + this)] meth c E z (yY j).2.2 d j (yY j).2.1 := by
      refine ⟨B.exec, B.bytes, hml, by rw [← w5]; exact findClass_of_methodNamed B.named, fun w hw => hts w (List.mem_cons_of_mem _ hw), hK, (name_of_methodNamed B.named B.method).1.trans w6, ⟨Nat.le_refl _, ?_, Nat.le_refl _, Nat.le_refl _⟩, by rw [hH.1]; omega⟩
      show 60 * d + 60 ≤ 60 * (d + 1)
      omega
    have hF : yFin p l e (headSpec (Cond.code (yY j).1 (yY j).2.1 (yY j).2.2 none :: zGW) (yRm (d + 1) j)).room s m #[.ref (z + this)] below meth c (MQ below (yQc E z hs') #[.ref (z + this)] s (yLim j).1 (yLim j).2 (fun q => z ≤ q)) E z j (yY j).2.1 hs' := by
      intro pc H locs lsA a1 a2 a3
      refine W.vret B.exec B.bytes B.returns (fun t h1 h2 => ⟨rfl, by rw [h1]; exact a1, by rw [h1]; exact a2.1, fun q hq => by rw [h1]; exact a2.2.1 q (by rw [hH.1]; omega) (Nat.not_le.mpr hq)⟩) a2.2.2 a3 B.notSynchronized
    have hX := ys_run hx (fun j2 o hs hs2 a1 a2 => yev_sound l E z d j2 o hs hs2 a1 a2) hF w10 300 0 none [] hs 0 0 h
    have hle : (lg_sl [Value.ref (z + this)]).length ≤ (yY j).2.2 := w9.1
    have hl := lv_entry [Value.ref (z + this)] (n := (yY j).2.2) hle
    have he := lg_entry_eq (m := m) (vs := [Value.ref (z + this)]) (n := (yY j).2.2)
    rw [show (#[Value.ref (z + this)] : Array Value) = [Value.ref (z + this)].toArray from rfl, lg_entry_eq]
    exact hX s.heap [] _ hH va_S.rf hl
