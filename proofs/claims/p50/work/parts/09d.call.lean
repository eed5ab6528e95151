theorem zpop_s : ∀ {n : Nat} {st acc as rest : List zV}, zpop n st acc = some (as, rest) → ∃ t, t.length = n ∧ st = t ++ rest ∧ as = t.reverse ++ acc
  | 0, st, acc, as, rest, h => by cases h; exact ⟨[], rfl, rfl, rfl⟩
  | n + 1, [], acc, as, rest, h => by cases h
  | n + 1, v :: st, acc, as, rest, h => by
    obtain ⟨t, h1, h2, h3⟩ := zpop_s (n := n) (st := st) (acc := v :: acc) h
    exact ⟨v :: t, by simp [h1], by simp [h2], by simp [h3]⟩
theorem zsz_le {E : zEn} (hE : E.2.2.2.category = 1) : ∀ (l : List zV), ((l.map (zvv E)).map fun v => v.category).sum ≤ zsz l
  | [] => Nat.le_refl _
  | .inl x :: r => by
    have := zsz_le hE r
    simp only [List.map_cons, List.sum_cons, zsz]
    show 1 + _ ≤ _
    omega
  | .inr (.inl x) :: r => by
    have := zsz_le hE r
    simp only [List.map_cons, List.sum_cons, zsz]
    show 2 + _ ≤ _
    omega
  | .inr (.inr x) :: r => by
    have := zsz_le hE r
    simp only [List.map_cons, List.sum_cons, zsz, zcat hE x]
    omega
theorem zgood {q : MethodName × ByteArray × Nat × Option FieldType} (h : Cond.code q.1 q.2.1 q.2.2.1 q.2.2.2 ∈ zGW) : GoodIn zGW (Cond.code q.1 q.2.1 q.2.2.1 q.2.2.2 :: zGW) := by
  intro w hw
  have hm : w ∈ zGW := (List.mem_cons.mp hw).elim (fun e => e ▸ h) id
  exact ⟨hm, good_of_word (List.mem_filter.mp hm).2⟩
theorem zPc_blind (E : zEn) (as : List zV) (σ : zM) : FrameBlind (zPc E as σ) := by
  intro a U g mk h
  obtain ⟨h1, h2, h3, h4, h5⟩ := h
  exact ⟨h1, h2, h3, h4.same (u := U) (U := U.calling g mk a) rfl, h5.same (u := U) (U := U.calling g mk a) rfl⟩
section ZCL
variable {p : Program} {l : Launch} {e : Env} {R : Room} {s : State} {m : MethodId} {args : Array Value} {below : List Frame} {meth : Method} {c : Code} {cells slots : Nat} {Q : State → Prop} {E : zEn} {A : Nat → Prop} {N nL : Nat} {sb : Bool} {sc : zM → Prop} {own d rk : Nat} {b : ByteArray} {C : zC} {K : zKt} {r : Int32 × Int64 × zM}
theorem zm_ret {H : Heap} {locs : List Loc} {lsA : Array Slot} {pc rkj : Nat} {st0 rest : List Value} {a : Array Value} {r1 : Int32 × Int64 × zM} (hr : va_Run p l e R s m args below meth c H locs cells slots 0 0 (F0 m pc lsA st0) rest (zQc E rkj r1 a) (zA E)) (hS : va_S A s.heap H locs) (hA : ∀ q, zA E q → A q)
    (kk : ∀ (H1 : Heap) (locs1 : List Loc), zHp E r1.2.2 H1 → H1.size = H.size → va_S A s.heap H1 locs1 → W p l e R s m args below meth c H1 locs1 cells slots Q (F0 m (pc + 3) lsA ((zrv rkj r1).toList ++ rest))) : W p l e R s m args below meth c H locs cells slots Q (F0 m pc lsA st0) := by
  intro T hT X
  obtain ⟨v, st₀, t, T', L, h0, X', hL, e1, e2, ⟨hv, hp, hz, hk⟩, st⟩ := hr T hT X
  cases hv
  rw [h0] at hz hk
  obtain ⟨t2, a1, b1⟩ := kk T'.heap (locs ++ L) (by rw [e1]; exact hp) (by rw [e1]; exact hz)
    ⟨by rw [e1, hz]; exact hS.1, fun q h1 h2 => by rw [e1, hk q (Nat.lt_of_lt_of_le h1 hS.1) (fun z => h2 (hA q z))]; exact hS.2.1 q h1 h2, fun q hq => by
      rcases List.mem_append.mp hq with h | h
      · exact hS.2.2 q h
      · exact hA _ (hL q h)⟩ T' rfl X'
  exact ⟨t2, st t2 a1, b1⟩
theorem zm_pre (hx : zCx p R s m args c cells slots E A nL own b d sb sc) {H : Heap} {locs : List Loc} {σ : zM} {as : List zV} (hH : zHp E σ H) (hS : va_S A s.heap H locs) : ∀ U : State, U.heap = H → s.WarmedH U.vm → zPc E as σ (as.map (zvv E)).toArray U := by
  intro U hU hW
  have ht : zTx E (zA E) s H := (hx.tx.kept hS.2.1).narrow hx.sub
  refine ⟨rfl, by rw [hU]; exact hH, hx.inj, hx.k.moved hW, ?_⟩
  rw [hU]
  exact ht.moved hW
theorem zm_static (hx : zCx p R s m args c cells slots E A nL own b d sb sc) {H : Heap} {locs : List Loc} {lsA : Array Slot} {pc i rkj : Nat} {q : MethodName × ByteArray × Nat × Option FieldType} {as : List zV} {rest : List zV} {σ : zM} {r1 : Int32 × Int64 × zM}
    (hM : zMt l E d q rkj as σ r1) (hq1 : Cond.code q.1 q.2.1 q.2.2.1 q.2.2.2 ∈ zGW) (hq2 : Cond.initialized q.1.cls ∈ zGW) (hq3 : q.2.2.1 ≤ 41) (hq4 : q.1.cls ≠ "java/lang/invoke/MethodHandle" ∧ q.1.cls ≠ "java/lang/invoke/VarHandle")
    (hl : Cond.methodLink (zcn own) i q.1 ∈ zGW ∨ ∃ host, (zcn own, i, q.1, host) ∈ zNest) (hst : Cond.static q.1 ∈ zGW) (hn : (parseMethodDescriptor q.1.desc).map (fun d => d.parameters.length) = some as.length) (hsz : zsz rest ≤ 8) (hsl : lsA.size = nL)
    (hH : zHp E σ H) (hS : va_S A s.heap H locs) (hd : decode b pc = .ok (.invokestatic i, 3))
    (kk : ∀ (H1 : Heap) (locs1 : List Loc), zHp E r1.2.2 H1 → H1.size = H.size → va_S A s.heap H1 locs1 → W p l e R s m args below meth c H1 locs1 cells slots Q (F0 m (pc + 3) lsA ((zrv rkj r1).toList ++ rest.map (zvv E)))) : W p l e R s m args below meth c H locs cells slots Q (F0 m pc lsA ((as.map (zvv E)).reverse ++ rest.map (zvv E))) := by
  have hR := hx.room
  have hroom : (zRm d).frames + 1 ≤ R.frames ∧ 8 + (q.2.2.1 + 11) + (zRm d).locals ≤ R.locals := ⟨hR.1, by show 8 + (q.2.2.1 + 11) + 60 * d ≤ _; omega⟩
  have hW : 2 * (F0 m pc lsA ((as.map (zvv E)).reverse ++ rest.map (zvv E))).monitorRoom + ((rest.map (zvv E)).map fun v => v.category).sum ≤ 8 := lv_room (Nat.le_trans (zsz_le hx.cat rest) hsz)
  have hts : ∀ w ∈ zGW, w.before args s = true := fun w h => hx.wd h
  rcases hl with hl | ⟨host, hl⟩
  · refine zm_ret (va_runS (As := as.map (zvv E)) (rest := rest.map (zvv E)) (n := as.length) ⟨hx.1, hx.2.1, hx.2.2.1, hx.ow, hts⟩ hM ⟨callB_of as.length hts (zgood hq1) rfl rfl rfl (hx.wd hq2) (hx.wd hl) ⟨hq4.1, hq4.2, hn⟩ hroom, hx.wd hst⟩ ⟨zPc_blind E as σ, zm_pre hx hH hS⟩ rfl (by simp) hsl rfl hW hd ⟨hR.2.2.1, hR.2.2.2⟩) hS hx.sub kk
  · refine zm_ret (va_runSN (As := as.map (zvv E)) (rest := rest.map (zvv E)) (n := as.length) ⟨hx.1, hx.2.1, hx.2.2.1, hx.ow, hts⟩ hM ⟨va_cnB as.length hts (zgood hq1) rfl rfl rfl (hx.k.2.2.2.2.2 _ hl) (hx.wd hq2) ⟨hq4.1, hq4.2, hn⟩ hroom, hx.wd hst, trivial⟩ ⟨zPc_blind E as σ, zm_pre hx hH hS⟩ rfl (by simp) hsl rfl hW hd ⟨hR.2.2.1, hR.2.2.2⟩) hS hx.sub kk
theorem zm_virtual (hx : zCx p R s m args c cells slots E A nL own b d sb sc) {H : Heap} {locs : List Loc} {lsA : Array Slot} {pc i rkj g k : Nat} {q : MethodName × ByteArray × Nat × Option FieldType} {as : List zV} {rest : List zV} {σ : zM} {r1 : Int32 × Int64 × zM} {Cn : String}
    (hM : zMt l E d q rkj (.inr (.inr (g, k)) :: as) σ r1) (hq1 : Cond.code q.1 q.2.1 q.2.2.1 q.2.2.2 ∈ zGW) (hq2 : Cond.initialized q.1.cls ∈ zGW) (hq3 : q.2.2.1 ≤ 41) (hq4 : q.1.cls ≠ "java/lang/invoke/MethodHandle" ∧ q.1.cls ≠ "java/lang/invoke/VarHandle")
    (hl : Cond.methodLink (zcn own) i q.1 ∈ zGW) (hst : Cond.instanceMethod q.1 ∈ zGW) (hse : Cond.selects Cn q.1 q.1 ∈ zGW) (hn : (parseMethodDescriptor q.1.desc).map (fun d => d.parameters.length) = some as.length) (hsz : zsz rest ≤ 8) (hsl : lsA.size = nL) (h9 : Nat.beq k 99 = false)
    (hrec : ∃ cellB : Cell, H[E.1 g k]? = some cellB ∧ cellB.vm.isStatics = false ∧ s.vm.findClass Cn = some cellB.cls)
    (hH : zHp E σ H) (hS : va_S A s.heap H locs) (hd : decode b pc = .ok (.invokevirtual i, 3))
    (kk : ∀ (H1 : Heap) (locs1 : List Loc), zHp E r1.2.2 H1 → H1.size = H.size → va_S A s.heap H1 locs1 → W p l e R s m args below meth c H1 locs1 cells slots Q (F0 m (pc + 3) lsA ((zrv rkj r1).toList ++ rest.map (zvv E)))) : W p l e R s m args below meth c H locs cells slots Q (F0 m pc lsA ((as.map (zvv E)).reverse ++ .ref (E.1 g k) :: rest.map (zvv E))) := by
  have hR := hx.room
  have hroom : (zRm d).frames + 1 ≤ R.frames ∧ 8 + (q.2.2.1 + 11) + (zRm d).locals ≤ R.locals := ⟨hR.1, by show 8 + (q.2.2.1 + 11) + 60 * d ≤ _; omega⟩
  have hW : 2 * (F0 m pc lsA ((as.map (zvv E)).reverse ++ .ref (E.1 g k) :: rest.map (zvv E))).monitorRoom + ((rest.map (zvv E)).map fun v => v.category).sum ≤ 8 := lv_room (Nat.le_trans (zsz_le hx.cat rest) hsz)
  have hts : ∀ w ∈ zGW, w.before args s = true := fun w h => hx.wd h
  have hpre : ∀ U : State, U.heap = H → s.WarmedH U.vm → zPc E (.inr (.inr (g, k)) :: as) σ (Value.ref (E.1 g k) :: as.map (zvv E)).toArray U := by
    have := zm_pre hx hH hS (as := .inr (.inr (g, k)) :: as)
    rw [List.map_cons, zvv_ref h9] at this
    exact this
  exact zm_ret (va_runV (C := Cn) (As := as.map (zvv E)) (rest := rest.map (zvv E)) (n := as.length) ⟨hx.1, hx.2.1, hx.2.2.1, hx.ow, hts⟩ hM ⟨callB_of as.length hts (zgood hq1) rfl rfl rfl (hx.wd hq2) (hx.wd hl) ⟨hq4.1, hq4.2, hn⟩ hroom, hx.wd hst, hx.wd hse⟩ ⟨zPc_blind E _ σ, hrec, hpre⟩ rfl (by simp) hsl rfl hW hd ⟨hR.2.2.1, hR.2.2.2⟩) hS hx.sub kk
theorem zm_recv (hx : zCx p R s m args c cells slots E A nL own b d sb sc) {H : Heap} {σ : zM} {g k ci : Nat} (hH : zHp E σ H) (hk : zkd k = (0, ci)) (hg : g < zNI k) : ∃ cellB : Cell, H[E.1 g k]? = some cellB ∧ cellB.vm.isStatics = false ∧ s.vm.findClass (zcn ci) = some cellB.cls := by
  obtain ⟨cell, q1, q2, q3, q4⟩ := hH.obj hk hg
  obtain ⟨hS, hfc, -⟩ := hx.k.1 ci _ (zCl_at (zkd_cls hk))
  exact ⟨cell, q1, by rw [q3]; rfl, by rw [q2]; exact hfc⟩
theorem zm_recvS (hx : zCx p R s m args c cells slots E A nL own b d sb sc) {H : Heap} {locs : List Loc} {g : Nat} (hS : va_S A s.heap H locs) (hg : g < 18) : ∃ cellB : Cell, H[E.1 g 95]? = some cellB ∧ cellB.vm.isStatics = false ∧ s.vm.findClass "java/lang/String" = some cellB.cls := by
  obtain ⟨cell, q1, q2, q3, -⟩ := ((hx.tx.1.1 g hg).1).kept hS.2.1
  exact ⟨cell, q1, q2, q3⟩
theorem zm_copy (hx : zCx p R s m args c cells slots E A nL own b d sb sc) {H : Heap} {locs : List Loc} {lsA : Array Slot} {pc i : Nat} {σ : zM} {g k g2 k2 n0 n1 : Nat} {sp dp n : Int32} {rest : List zV}
    (hk : zkd k = (1, n0)) (hk2 : zkd k2 = (1, n1)) (hg : g < zNI k) (hg2 : g2 < zNI k2) (h1 : ¬ sp < 0) (h2 : ¬ dp < 0) (h3 : ¬ n < 0) (h4 : sp.toNatClampNeg + n.toNatClampNeg ≤ n0) (h5 : dp.toNatClampNeg + n.toNatClampNeg ≤ n1)
    (hl : Cond.methodLink (zcn own) i arraycopyName ∈ zGW) (hsz : zsz rest ≤ 8) (hsl : lsA.size = nL) (hH : zHp E σ H) (hS : va_S A s.heap H locs) (hd : decode b pc = .ok (.invokestatic i, 3))
    (kk : ∀ (H1 : Heap) (locs1 : List Loc), zHp E (zcop σ g k sp.toNatClampNeg g2 k2 dp.toNatClampNeg n.toNatClampNeg) H1 → H1.size = H.size → va_S A s.heap H1 locs1 → W p l e R s m args below meth c H1 locs1 cells slots Q (F0 m (pc + 3) lsA (rest.map (zvv E)))) : W p l e R s m args below meth c H locs cells slots Q (F0 m pc lsA (.int n :: .int dp :: .ref (E.1 g2 k2) :: .int sp :: .ref (E.1 g k) :: rest.map (zvv E))) := by
  have nn : ∀ z : Int32, ¬ z < 0 → z.toInt = (z.toNatClampNeg : Int) := by
    intro z hz
    have hz0 : (0 : Int) ≤ z.toInt := by
      have := Int32.not_lt.mp hz
      simpa using Int32.le_iff_toInt_le.mp this
    show z.toInt = ((z.toInt.toNat : Nat) : Int)
    omega
  have hR := hx.room
  have hc0 := hH.arr1 hk hg
  have hc1 := hH.arr1 hk2 hg2
  intro T hT X
  obtain ⟨-, k0, hk0, cm0, hkk0⟩ := hx.k.2.1 n0 (fun j => .int (σ.1 g k j))
  obtain ⟨-, k1, hk1, cm1, hkk1⟩ := hx.k.2.1 n1 (fun j => .int (σ.1 g2 k2 j))
  obtain ⟨vm', X', step⟩ := X.arraycopy hx.1 hx.ow (hx.wd hl) (hx.wd zmw_nat) (hx.wd zmw_stat) (hx.wd zmw_sys) (src := E.1 g k) (dst := E.1 g2 k2) (cs := arrV (E.2.1 1) n0 fun j => .int (σ.1 g k j)) (cd := arrV (E.2.1 1) n1 fun j => .int (σ.1 g2 k2 j)) (srcPos := sp) (destPos := dp) (n := n) (by rw [hT]; exact hc0) (by rw [hT]; exact hc1)
    (fun _ h => by cases h) (fun _ h => by cases h) (fun h => by cases h) (fun h => by cases h) hk0 hk1 hkk0 hkk1 (by simp [refKind]) h1 h2 h3
    (by rw [nn sp h1, nn n h3, arrV_size]; omega)
    (by rw [nn dp h2, nn n h3, arrV_size]; omega)
    (fun vm₁ _ j hj => by
      have e : (arrV (E.2.1 1) n0 fun j => .int (σ.1 g k j)).slots.getD (sp.toNatClampNeg + j) .null = .int (σ.1 g k (sp.toNatClampNeg + j)) := by
        rw [Array.getD_eq_getD_getElem?, arrV_read _ _ (by omega)]
        rfl
      refine ⟨?_, ?_⟩
      · rw [e]
        rfl
      · rw [e]
        exact trivial)
    (g := F0 m pc lsA (.int n :: .int dp :: .ref (E.1 g2 k2) :: .int sp :: .ref (E.1 g k) :: rest.map (zvv E))) rfl (by rw [hx.2.2.1]; exact hsl) (rest := rest.map (zvv E)) rfl (by rw [hx.2.1]; exact hd) (by omega) (by
      have := Nat.le_trans (zsz_le hx.cat rest) hsz
      have hw : nativeFrameWords "java/lang/System" "arraycopy" 5 + 11 ≤ 52 := by decide +kernel
      show 2 * 0 + _ + _ ≤ _
      omega)
  have e1 : copied (arrV (E.2.1 1) n0 fun j => .int (σ.1 g k j)) (arrV (E.2.1 1) n1 fun j => .int (σ.1 g2 k2 j)) sp dp n = arrV (E.2.1 1) n1 fun j => .int (va_cpy (σ.1 g k) (σ.1 g2 k2) sp.toNatClampNeg dp.toNatClampNeg n.toNatClampNeg j) := va_copied (fun z => .int z) _ _ (σ.1 g k) (σ.1 g2 k2) h4
  rw [e1] at X' step
  have hl : E.1 g2 k2 < H.size := (Array.getElem?_eq_some_iff.mp hc1).1
  have hheap : ((T.setVm vm').setCell (E.1 g2 k2) (arrV (E.2.1 1) n1 fun j => .int (va_cpy (σ.1 g k) (σ.1 g2 k2) sp.toNatClampNeg dp.toNatClampNeg n.toNatClampNeg j))).heap = H.setIfInBounds (E.1 g2 k2) (arrV (E.2.1 1) n1 fun j => .int (va_cpy (σ.1 g k) (σ.1 g2 k2) sp.toNatClampNeg dp.toNatClampNeg n.toNatClampNeg j)) := by rw [← hT]; rfl
  have oq : ∀ q : Nat, q ≠ E.1 g2 k2 → (H.setIfInBounds (E.1 g2 k2) (arrV (E.2.1 1) n1 fun j => .int (va_cpy (σ.1 g k) (σ.1 g2 k2) sp.toNatClampNeg dp.toNatClampNeg n.toNatClampNeg j)))[q]? = H[q]? := fun q hq => by simp [Array.getElem?_setIfInBounds, Ne.symm hq]
  have hAA := hx.sub _ ⟨g2, k2, hg2, rfl⟩
  obtain ⟨t, a1, b1⟩ := kk _ _ (hH.upd (σ' := zcop σ g k sp.toNatClampNeg g2 k2 dp.toNatClampNeg n.toNatClampNeg) hx.inj hg2 (by
      unfold zAt
      rw [hk2]
      show (H.setIfInBounds (E.1 g2 k2) _)[E.1 g2 k2]? = some _
      rw [Array.getElem?_setIfInBounds, if_pos rfl, if_pos hl]
      congr 2
      funext j
      show Value.int (if _ then _ else _) = Value.int (if _ then _ else _)
      by_cases hj : dp.toNatClampNeg ≤ j ∧ j < dp.toNatClampNeg + n.toNatClampNeg
      · rw [if_pos hj, if_pos ⟨rfl, rfl, hj⟩]
      · rw [if_neg hj, if_neg fun z => hj z.2.2]) oq (fun g' k' j q => if_neg fun z => q ⟨z.1, z.2.1⟩) (fun _ _ _ _ => rfl)) (by simp) ⟨by simp; exact hS.1, fun q g1 g2 => by
      rw [oq q (fun e => g2 (by rw [e]; exact hAA))]
      exact hS.2.1 q g1 g2, fun q hq => by
      rcases List.mem_append.mp hq with h | h
      · exact hS.2.2 q h
      · obtain ⟨z, -, hz⟩ := List.mem_map.mp h
        rw [← hz]
        exact hAA⟩ _ hheap X'
  exact ⟨t, step t a1, b1⟩
end ZCL
