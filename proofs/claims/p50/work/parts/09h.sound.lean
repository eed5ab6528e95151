section ZSD
variable {p : Program} {l : Launch} {e : Env} {R : Room} {s : State} {m : MethodId} {args : Array Value} {below : List Frame} {meth : Method} {c : Code} {cells slots : Nat} {Q : State → Prop} {E : zEn} {A : Nat → Prop} {N nL : Nat} {sb : Bool} {sc : zM → Prop} {own d rk : Nat} {b : ByteArray} {C : zC} {K : zKt} {r : Int32 × Int64 × zM}
def zFin (p : Program) (l : Launch) (e : Env) (R : Room) (s : State) (m : MethodId) (args : Array Value) (below : List Frame) (meth : Method) (c : Code) (cells slots : Nat) (Q : State → Prop) (E : zEn) (A : Nat → Prop) (N rk : Nat) (b : ByteArray) (sc : zM → Prop) (r : Int32 × Int64 × zM) : Prop :=
  ∀ (pc : Nat) (H : Heap) (locs : List Loc) (lsA : Array Slot), zHp E r.2.2 H → sc r.2.2 → H.size = N → va_S A s.heap H locs →
    (zret rk r.1 = true → decode b pc = .ok (.ireturn, 1) → W p l e R s m args below meth c H locs cells slots Q (F0 m pc lsA [.int r.1])) ∧ (rk = 2 → decode b pc = .ok (.lreturn, 1) → W p l e R s m args below meth c H locs cells slots Q (F0 m pc lsA [.long r.2.1])) ∧ (rk = 0 → decode b pc = .ok (.return_, 1) → W p l e R s m args below meth c H locs cells slots Q (F0 m pc lsA []))
theorem zs_ireturn {pc nx tg : Nat} {cc : Int32} {dd : Int64} {sw mk} {ls : zL} {st : List zV} {σ : zM} (hF : zFin p l e R s m args below meth c cells slots Q E A N rk b sc r) (hc : zck b own nL (pc, (.ireturn, nx, tg, cc, dd, sw, mk)) = true) (h : zop C own rk K ls st σ (.ireturn, nx, tg, cc, dd, sw, mk) = some r) : zX p l e R s m args below meth c cells slots Q E A N nL sb sc pc ls st σ := by
  obtain ⟨hd, h1⟩ := zck_s hc
  obtain ⟨rfl, hd⟩ := znx (n := 1) hd (by simpa [zck1] using h1)
  simp only [zop] at h
  split at h
  · rename_i x
    have key : zret rk x = true ∧ (x, 0, σ) = r := by
      split at h
      · exact ⟨rfl, Option.some.inj h⟩
      · obtain ⟨a1, a2⟩ := zgd_some h
        exact ⟨a1, Option.some.inj a2⟩
    obtain ⟨k1, rfl⟩ := key
    intro H locs lsA hH hsc hN hS hL hl hs
    exact (hF pc H locs lsA hH hsc hN hS).1 k1 hd
  · cases h
theorem zs_lreturn {pc nx tg : Nat} {cc : Int32} {dd : Int64} {sw mk} {ls : zL} {st : List zV} {σ : zM} (hF : zFin p l e R s m args below meth c cells slots Q E A N rk b sc r) (hc : zck b own nL (pc, (.lreturn, nx, tg, cc, dd, sw, mk)) = true) (h : zop C own rk K ls st σ (.lreturn, nx, tg, cc, dd, sw, mk) = some r) : zX p l e R s m args below meth c cells slots Q E A N nL sb sc pc ls st σ := by
  obtain ⟨hd, h1⟩ := zck_s hc
  obtain ⟨rfl, hd⟩ := znx (n := 1) hd (by simpa [zck1] using h1)
  simp only [zop] at h
  split at h
  · obtain ⟨hb, g1⟩ := zcb_some h
    have := Option.some.inj g1
    subst this
    intro H locs lsA hH hsc hN hS hL hl hs
    exact (hF pc H locs lsA hH hsc hN hS).2.1 (Nat.eq_of_beq_eq_true hb) hd
  · cases h
theorem zs_return {pc nx tg : Nat} {cc : Int32} {dd : Int64} {sw mk} {ls : zL} {st : List zV} {σ : zM} (hF : zFin p l e R s m args below meth c cells slots Q E A N rk b sc r) (hc : zck b own nL (pc, (.return_, nx, tg, cc, dd, sw, mk)) = true) (h : zop C own rk K ls st σ (.return_, nx, tg, cc, dd, sw, mk) = some r) : zX p l e R s m args below meth c cells slots Q E A N nL sb sc pc ls st σ := by
  obtain ⟨hd, h1⟩ := zck_s hc
  obtain ⟨rfl, hd⟩ := znx (n := 1) hd (by simpa [zck1] using h1)
  simp only [zop] at h
  split at h
  · obtain ⟨hb, g1⟩ := zcb_some h
    have := Option.some.inj g1
    subst this
    intro H locs lsA hH hsc hN hS hL hl hs
    exact (hF pc H locs lsA hH hsc hN hS).2.2 (Nat.eq_of_beq_eq_true hb) hd
  · cases h
theorem zs_op {pc : Nat} {ls : zL} {st : List zV} {σ : zM} (q : zE) (hx : zCx p R s m args c cells slots E A nL own b d sb sc) (hC : zCok l E d sc C) (hSC : zSC sc) (hF : zFin p l e R s m args below meth c cells slots Q E A N rk b sc r) (ih : zIH p l e R s m args below meth c cells slots Q E A N nL sb sc K r)
    (hc : (match q.1 with | .new _ => true | .invokespecial _ => true | .astore_n _ => true | .athrow => true | _ => zck b own nL (pc, q)) = true) (h : zop C own rk K ls st σ q = some r) : zX p l e R s m args below meth c cells slots Q E A N nL sb sc pc ls st σ := by
  obtain ⟨ins, nx, tg, cc, dd, sw, mk⟩ := q
  cases ins
  case ifCond cnd off =>
    cases cnd
    · exact zs_ifCond_eq hx ih hc h
    · exact zs_ifCond_ne hx ih hc h
    · exact zs_ifCond_lt hx ih hc h
    · exact zs_ifCond_ge hx ih hc h
    · exact zs_ifCond_gt hx ih hc h
    · exact zs_ifCond_le hx ih hc h
  case if_icmp cnd off =>
    cases cnd
    · exact zs_if_icmp_eq hx ih hc h
    · exact zs_if_icmp_ne hx ih hc h
    · exact zs_if_icmp_lt hx ih hc h
    · exact zs_if_icmp_ge hx ih hc h
    · exact zs_if_icmp_gt hx ih hc h
    · exact zs_if_icmp_le hx ih hc h
  case iadd => exact zs_iadd hx ih hc h
  case isub => exact zs_isub hx ih hc h
  case imul => exact zs_imul hx ih hc h
  case iand => exact zs_iand hx ih hc h
  case ior => exact zs_ior hx ih hc h
  case ixor => exact zs_ixor hx ih hc h
  case ishl => exact zs_ishl hx ih hc h
  case ishr => exact zs_ishr hx ih hc h
  case iushr => exact zs_iushr hx ih hc h
  case idiv => exact zs_idiv hx ih hc h
  case irem => exact zs_irem hx ih hc h
  case ineg => exact zs_ineg hx ih hc h
  case i2l => exact zs_i2l hx ih hc h
  case i2b => exact zs_i2b hx ih hc h
  case i2s => exact zs_i2s hx ih hc h
  case i2c => exact zs_i2c hx ih hc h
  case istore => exact zs_istore hx ih hc h
  case istore_n => exact zs_istore_n hx ih hc h
  case lstore_n => exact zs_lstore_n hx ih hc h
  case l2i => exact zs_l2i hx ih hc h
  case ladd => exact zs_ladd hx ih hc h
  case lmul => exact zs_lmul hx ih hc h
  case land => exact zs_land hx ih hc h
  case lor => exact zs_lor hx ih hc h
  case lcmp => exact zs_lcmp hx ih hc h
  case lshl => exact zs_lshl hx ih hc h
  case lshr => exact zs_lshr hx ih hc h
  case lushr => exact zs_lushr hx ih hc h
  case iload => exact zs_iload hx ih hc h
  case iload_n => exact zs_iload_n hx ih hc h
  case iinc => exact zs_iinc hx ih hc h
  case lload => exact zs_lload hx ih hc h
  case lload_n => exact zs_lload_n hx ih hc h
  case aload_n => exact zs_aload_n hx ih hc h
  case iconst => exact zs_iconst hx ih hc h
  case bipush => exact zs_bipush hx ih hc h
  case sipush => exact zs_sipush hx ih hc h
  case lconst => exact zs_lconst hx ih hc h
  case ldc_w => exact zs_ldc_w hx ih hc h
  case ldc2_w => exact zs_ldc2_w hx ih hc h
  case ldc => exact zs_ldc hx ih hc h
  case goto => exact zs_goto hx ih hc h
  case dup => exact zs_dup hx ih hc h
  case pop => exact zs_pop hx ih hc h
  case dup2 => exact zs_dup2 hx ih hc h
  case tableswitch => exact zs_tableswitch hx ih hc h
  case lookupswitch => exact zs_lookupswitch hx ih hc h
  case invokevirtual i =>
    obtain ⟨hd, h1⟩ := zck_s hc
    obtain ⟨rfl, hd⟩ := znx (n := 3) hd (by simpa [zck1] using h1)
    exact zs_invoke (vf := true) hx hC hSC ih hd h
  case invokestatic i =>
    obtain ⟨hd, h1⟩ := zck_s hc
    obtain ⟨rfl, hd⟩ := znx (n := 3) hd (by simpa [zck1] using h1)
    exact zs_invoke (vf := false) hx hC hSC ih hd h
  case ireturn => exact zs_ireturn hF hc h
  case lreturn => exact zs_lreturn hF hc h
  case return_ => exact zs_return hF hc h
  case getfield => exact zs_getfield hx ih hc h
  case putfield => exact zs_putfield hx hSC ih hc h
  case getstatic => exact zs_getstatic hx ih hc h
  case iaload => exact zs_iaload hx ih hc h
  case laload => exact zs_laload hx ih hc h
  case aaload => exact zs_aaload hx ih hc h
  case baload => exact zs_baload hx ih hc h
  case iastore => exact zs_iastore hx hSC ih hc h
  case lastore => exact zs_lastore hx hSC ih hc h
  case arraylength => exact zs_arraylength hx ih hc h
  all_goals cases h
theorem zs_run {T : zT} (hx : zCx p R s m args c cells slots E A T.2.2.2 T.1 b d sb sc) (hC : zCok l E d sc C) (hSC : zSC sc) (hF : zFin p l e R s m args below meth c cells slots Q E A N T.2.2.1 b sc r) (hck : zckM b T = true) : ∀ (n : Nat) (pc : Nat) (ls : zL) (st : List zV) (σ : zM), zrF C T n pc ls st σ = some r → zX p l e R s m args below meth c cells slots Q E A N T.2.2.2 sb sc pc ls st σ
  | 0, _, _, _, _, h => by cases h
  | n + 1, pc, ls, st, σ, h => by
    have h : zst C T (zrF C T n) pc ls st σ = some r := h
    unfold zst at h
    cases hz : zas (T.2.1.getD (pc / 32) []) pc with
    | none => rw [hz] at h; cases h
    | some q =>
      rw [hz] at h
      have hm := zas_mem hz
      have hch : T.2.1.getD (pc / 32) [] ∈ T.2.1 := by
        rw [List.getD_eq_getElem?_getD] at hm ⊢
        cases hq : T.2.1[pc / 32]? with
        | none => rw [hq] at hm; cases hm
        | some ch => exact List.mem_of_getElem? hq
      have h1 := List.all_eq_true.mp (List.all_eq_true.mp hck _ hch) _ hm
      have := zs_op q hx hC hSC hF (fun pc ls st σ => zs_run hx hC hSC hF hck n pc ls st σ) h1 h
      intro H locs lsA hH hsc hN hS hL hl hs
      exact this H locs lsA hH hsc hN hS (lv_less hL fun q hq => zls_mk hq) (fun v hv => hl v (zmk_sub hv)) hs
end ZSD
theorem zent_args {E : zEn} (hE : E.2.2.2.category = 1) : ∀ (as : List zV) (b : Nat), zls E b (zent as) = lv_args b (as.map (zvv E))
  | [], _ => rfl
  | .inl x :: r, b => by
    show (b, Value.int x) :: zls E (b + 1) (zent r) = (b, Value.int x) :: lv_args (b + 1) (r.map (zvv E))
    rw [zent_args hE r]
  | .inr (.inl x) :: r, b => by
    show (b, Value.long x) :: zls E (b + 2) (zent r) = (b, Value.long x) :: lv_args (b + 2) (r.map (zvv E))
    rw [zent_args hE r]
  | .inr (.inr x) :: r, b => by
    show (b, zvv E (.inr (.inr x))) :: zls E (b + 1) (zent r) = (b, zvv E (.inr (.inr x))) :: lv_args (if (zvv E (.inr (.inr x))).category = 2 then b + 2 else b + 1) (r.map (zvv E))
    rw [zcat hE x, zent_args hE r]
    rfl
theorem zls_pad {E : zEn} : ∀ (l : zL) (b n : Nat), zls E b (l ++ List.replicate n none) = zls E b l
  | [], b, 0 => rfl
  | [], b, n + 1 => zls_pad [] (b + 1) n
  | none :: l, b, n => zls_pad l (b + 1) n
  | some w :: l, b, n => by
    show (b, zvv E w) :: zls E (b + 1) (l ++ List.replicate n none) = (b, zvv E w) :: zls E (b + 1) l
    rw [zls_pad l (b + 1) n]
theorem zent_mem : ∀ {as : List zV} {v}, some v ∈ zent as → v ∈ as
  | [], _, h => by cases h
  | .inl x :: r, v, h => by
    rcases List.mem_cons.mp h with h | h
    · cases h; exact List.mem_cons_self
    · exact List.mem_cons_of_mem _ (zent_mem h)
  | .inr (.inl x) :: r, v, h => by
    rcases List.mem_cons.mp h with h | h
    · cases h; exact List.mem_cons_self
    · rcases List.mem_cons.mp h with h | h
      · cases h
      · exact List.mem_cons_of_mem _ (zent_mem h)
  | .inr (.inr x) :: r, v, h => by
    rcases List.mem_cons.mp h with h | h
    · cases h; exact List.mem_cons_self
    · exact List.mem_cons_of_mem _ (zent_mem h)
theorem zent_len {E : zEn} (hE : E.2.2.2.category = 1) : ∀ (as : List zV), (lg_sl (as.map (zvv E))).length = (zent as).length
  | [] => rfl
  | .inl x :: r => by
    have := zent_len hE r
    simp only [List.map_cons, lg_sl, zvv, zent, Value.category, List.length_cons] at this ⊢
    simp [this]
  | .inr (.inl x) :: r => by
    have := zent_len hE r
    simp only [List.map_cons, lg_sl, zvv, zent, Value.category, List.length_cons] at this ⊢
    simp [this]
  | .inr (.inr x) :: r => by
    have := zent_len hE r
    have hc := zcat hE x
    simp only [List.map_cons, lg_sl, zent, List.length_cons] at this ⊢
    simp [this, hc]
theorem zret3 {x : Int32} (h : zret 3 x = true) : narrow .boolean (.int x) = .int x := by
  rcases z01_spec h with rfl | rfl <;> decide
theorem zret4 {x : Int32} (h : zret 4 x = true) : narrow .char (.int x) = .int x := by
  have h : (decide (0 ≤ x) && decide (x < 65536)) = true := h
  simp only [Bool.and_eq_true, decide_eq_true_eq] at h
  obtain ⟨j, hj, rfl⟩ := nI_of (Int32.not_lt.mpr h.1)
  have h2 : nI j < nI 65536 := h.2
  exact (pk_charN ((nI_ltI hj (by decide)).mp h2)).1
theorem zret5 {x : Int32} (h : zret 5 x = true) : narrow .byte (.int x) = .int x := by
  have h : decide (x = 0) = true := h
  rw [of_decide_eq_true h]
  decide
theorem zTrue_sc : zSC (fun _ => True) := ⟨fun _ _ _ _ _ _ _ => trivial, fun _ _ _ _ _ _ _ => trivial, fun _ _ _ _ _ _ _ _ _ _ => trivial⟩
theorem zME_TL {j : Nat} {T : zT} (h : zTL[j]? = some T) : ∃ q, zME[j]? = some q := by
  have h1 : zTL.length = zME.length := by decide +kernel
  have h2 := (List.getElem?_eq_some_iff.mp h).1
  rw [h1] at h2
  exact ⟨_, List.getElem?_eq_getElem h2⟩
set_option maxRecDepth 100000 in
theorem zev_sound (l : Launch) (E : zEn) : ∀ (d : Nat) j as σ r, zbi j = none → zev d j as σ = some r → (∀ v ∈ as, zokv false v) → ∃ q T, zME[j]? = some q ∧ zTL[j]? = some T ∧ zMt l E d q T.2.2.1 as σ r
  | 0, _, _, _, _, _, h, _ => by cases h
  | d + 1, j, as, σ, r, hb, h, has => by
    cases hT : zTL[j]? with
    | none =>
      have : zev (d + 1) j as σ = none := by
        show (match zbi j with | some f => f as σ | none => _) = _
        rw [hb, hT]
      rw [this] at h
      cases h
    | some T =>
      cases hlen : Nat.ble (zent as).length T.2.2.2 with
      | false =>
        have : zev (d + 1) j as σ = none := by
          show (match zbi j with | some f => f as σ | none => _) = _
          rw [hb, hT]
          show zcb (Nat.ble (zent as).length T.2.2.2) _ none = _
          rw [hlen]
          rfl
        rw [this] at h
        cases h
      | true =>
        rw [zev_m hT hb hlen] at h
        obtain ⟨q, hq⟩ := zME_TL hT
        refine ⟨q, T, hq, rfl, ?_⟩
        have hj : j < 281 ∨ j = 281 := by
          have h1 : zTL.length = 282 := by decide +kernel
          have h2 := (List.getElem?_eq_some_iff.mp hT).1
          omega
        rcases hj with hj | hj
        · obtain ⟨w1, w2, w3, w4, w5, w6, w7, w8, w9⟩ := zJall j q T hq hT hj hb
          refine Met.ofW (cc := q.2.1) (maxL := q.2.2.1) (ret := q.2.2.2) w3 rfl ?_
          intro p e s m args below meth c s₁ B hml hv
          obtain ⟨rfl, hH, hI, hK, hTx⟩ := hv
          have hts : ∀ w ∈ (Cond.code q.1 q.2.1 q.2.2.1 q.2.2.2 :: zGW), w.before (as.map (zvv E)).toArray s = true := atoms_spec B.pre
          have hE := hTx.2.2.2.2
          have hx : zCx p (headSpec (Cond.code q.1 q.2.1 q.2.2.1 q.2.2.2 :: zGW) (zRm (d + 1))).room s m (as.map (zvv E)).toArray c 0 0 E (zA E) T.2.2.2 T.1 q.2.1 d false (fun _ => True) := by
            refine ⟨B.exec, B.bytes, by rw [hml, w5], by rw [← w4]; exact findClass_of_methodNamed B.named, fun w hw => hts w (List.mem_cons_of_mem _ hw), hK, hTx, hI, fun _ z => z, ⟨Nat.le_refl _, by show 60 * d + 60 ≤ 60 * (d + 1); omega, Nat.le_refl _, Nat.le_refl _⟩, fun _ _ z => by cases z⟩
          obtain ⟨n, hn⟩ := zrun_some h
          have hF : zFin p l e (headSpec (Cond.code q.1 q.2.1 q.2.2.1 q.2.2.2 :: zGW) (zRm (d + 1))).room s m (as.map (zvv E)).toArray below meth c 0 0 (MQ below (zQc E T.2.2.1 r) (as.map (zvv E)).toArray s 0 0 (zA E)) E (zA E) s.heap.size T.2.2.1 q.2.1 (fun _ => True) r := by
            intro pc H locs lsA a1 _ a2 a3
            have hq0 : ∀ (v : Option Value) (t : State), v = zrv T.2.2.1 r → t.heap = H → s.WarmedH t.vm → zQc E T.2.2.1 r (as.map (zvv E)).toArray s (.returned v) t := fun v t hv ht _ => ⟨by rw [hv], by rw [ht]; exact a1, by rw [ht]; exact a2, fun q h1 h2 => by rw [ht]; exact a3.2.1 q h1 h2⟩
            have hret := B.returns
            refine ⟨fun b1 b2 => ?_, fun b1 b2 => ?_, fun b1 b2 => ?_⟩
            · generalize hrk : T.2.2.1 = rk at b1 w8 hq0 ⊢
              match rk, b1, w8, hq0 with
              | 1, b1, w8, hq0 =>
                have hr2 : meth.sig.returnType = some .int := hret.trans (Option.some.inj w8).symm
                exact W.iret B.exec B.bytes hr2 (fun t h1 h2 => hq0 _ t rfl h1 h2) a3.2.2 b2 B.notSynchronized
              | 3, b1, w8, hq0 =>
                have hr2 : meth.sig.returnType = some .boolean := hret.trans (Option.some.inj w8).symm
                exact W.zret B.exec B.bytes hr2 (zret3 b1) (fun t h1 h2 => hq0 _ t rfl h1 h2) a3.2.2 b2 B.notSynchronized
              | 4, b1, w8, hq0 =>
                have hr2 : meth.sig.returnType = some .char := hret.trans (Option.some.inj w8).symm
                exact W.zret B.exec B.bytes hr2 (zret4 b1) (fun t h1 h2 => hq0 _ t rfl h1 h2) a3.2.2 b2 B.notSynchronized
              | 5, b1, w8, hq0 =>
                have hr2 : meth.sig.returnType = some .byte := hret.trans (Option.some.inj w8).symm
                exact W.zret B.exec B.bytes hr2 (zret5 b1) (fun t h1 h2 => hq0 _ t rfl h1 h2) a3.2.2 b2 B.notSynchronized
              | 0, b1, _, _ => cases b1
              | 2, b1, _, _ => cases b1
              | k + 6, b1, _, _ => cases b1
            · rw [b1] at w8 hq0 ⊢
              have hr2 : meth.sig.returnType = some .long := hret.trans (Option.some.inj w8).symm
              exact W.lret B.exec B.bytes hr2 (fun t h1 h2 => hq0 _ t rfl h1 h2) a3.2.2 b2 B.notSynchronized
            · rw [b1] at w8 hq0 ⊢
              have hr2 : meth.sig.returnType = none := hret.trans (Option.some.inj w8).symm
              exact W.vret B.exec B.bytes hr2 (fun t h1 h2 => hq0 _ t rfl h1 h2) a3.2.2 b2 B.notSynchronized
          have hC : zCok l E d (fun _ => True) (zev d) := ⟨fun j as σ r h1 h2 h3 => zev_sound l E d j as σ r h1 h2 h3, fun j f hf as σ r hr => by
            cases d with
            | zero => cases hr
            | succ d => rw [zev_b hf] at hr; exact hr, fun _ _ _ _ _ _ => trivial⟩
          have hX := zs_run hx hC zTrue_sc hF w7 n 0 _ _ _ hn
          have hle : (lg_sl (as.map (zvv E))).length ≤ q.2.2.1 := by rw [zent_len hE, w5]; exact Nat.le_of_ble_eq_true hlen
          have hl := lv_entry (as.map (zvv E)) (n := q.2.2.1) hle
          rw [lg_entry_eq]
          generalize (lg_sl (as.map (zvv E)) ++ List.replicate (q.2.2.1 - (lg_sl (as.map (zvv E))).length) Slot.unset).toArray = lsA at hl ⊢
          refine hX s.heap [] lsA hH trivial rfl va_S.rf ?_ ?_ (fun _ h => by cases h)
          · unfold zpad
            rw [zls_pad, zent_args hE, ← w5]
            exact hl
          · intro v hv
            rcases List.mem_append.mp hv with hv | hv
            · exact has v (zent_mem hv)
            · cases List.eq_of_mem_replicate hv
        · exfalso
          subst hj
          have hT2 : zTL[281]? = some zT_281 := rfl
          rw [hT2] at hT
          cases hT
          rw [zrun_step] at h
          have : zst (zev d) zT_281 (zrun (zev d) zT_281) 0 (zpad zT_281.2.2.2 (zent as)) [] σ = none := rfl
          rw [this] at h
          cases h
