section YS2
variable {p : Program} {l : Launch} {e : Env} {R : Room} {s : State} {m : MethodId} {args : Array Value} {below : List Frame} {meth : Method} {c : Code} {Q : State → Prop} {E : zEn} {z nL d j this : Nat} {b : ByteArray} {C : Nat → Nat → List yC → Option (List yC)} {K : yKt} {r : List yC}
theorem ycats (z : Nat) : ∀ st : List yW, ((st.map (yv z)).map fun v => v.category).sum = st.length
  | [] => rfl
  | a :: st => by
    have := ycats z st
    simp only [List.map_cons, List.sum_cons, List.length_cons, yv_cat] at this ⊢
    omega
theorem ys_ret {H : Heap} {locs : List Loc} {lsA : Array Slot} {pc j2 cs ss : Nat} {st0 rest : List Value} {a : Array Value} {hs2 : List yC} (hz : z ≤ s.heap.size) (hr : va_Run p l e R s m args below meth c H locs cs ss (yLim j2).1 (yLim j2).2 (F0 m pc lsA st0) rest (yQc E z hs2 a) (fun q => z ≤ q)) (hS : va_S (fun q => z ≤ q) s.heap H locs)
    (kk : ∀ (H1 : Heap) (locs1 : List Loc), yRp E z hs2 H1 → va_S (fun q => z ≤ q) s.heap H1 locs1 → W p l e R s m args below meth c H1 locs1 (cs + (yLim j2).1) (ss + (yLim j2).2) Q (F0 m (pc + 3) lsA rest)) : W p l e R s m args below meth c H locs cs ss Q (F0 m pc lsA st0) := by
  intro T hT X
  obtain ⟨v, st₀, t, T', L, h0, X', hL, e1, e2, ⟨hv, hp, hzz, hk⟩, st⟩ := hr T hT X
  cases hv
  rw [h0] at hzz hk
  obtain ⟨t2, a1, b1⟩ := kk T'.heap (locs ++ L) (by rw [e1]; exact hp)
    ⟨by rw [e1]; exact Nat.le_trans hS.1 hzz, fun q h1 h2 => by rw [e1, hk q (Nat.not_le.mp h2)]; exact hS.2.1 q h1 h2, fun q hq => by
      rcases List.mem_append.mp hq with h | h
      · exact hS.2.2 q h
      · exact hL q h⟩ T' rfl X'
  exact ⟨t2, st t2 a1, b1⟩
theorem ys_call (hx : yCx p R s m args meth c E z nL d j b) (hC : yCok l E z d C) (ih : yIH p l e R s m args below meth c Q E z nL this K r) {pc i o j2 : Nat} {l1 st hs cs ss} {hs2 : List yC} (hd : decode b pc = .ok (.invokespecial i, 3)) (hq : (j, i, some j2) ∈ yCL) (hsz : st.length ≤ 8) (hb2 : cs + (yLim j2).1 ≤ (yLim j).1) (hb3 : ss + (yLim j2).2 ≤ (yLim j).2) (hcall : C j2 o hs = some hs2)
    (h : K (pc + 3) l1 st hs2 (cs + (yLim j2).1) (ss + (yLim j2).2) = some r) : yX p l e R s m args below meth c Q E z nL this pc l1 (.inr (some o) :: st) hs cs ss := by
  intro H locs lsA hH hS hL
  obtain ⟨hx1, hx2, hx3, hx4, hts, hK, hx7, hR, hz⟩ := hx
  obtain ⟨hj2, hl⟩ := (yCL_ok _ hq).2 j2 rfl
  obtain ⟨w1, w2, w3, w4, w5, w6, w7, w8, w9, w10⟩ := yJall j2 hj2
  have hM := hC j2 o hs hs2 hj2 hcall
  have hG := zgood (q := ((yY j2).1, (yY j2).2.1, (yY j2).2.2, none)) w1
  have hroom : (yRm d j2).frames + 1 ≤ R.frames ∧ 8 + ((yY j2).2.2 + 11) + (yRm d j2).locals ≤ R.locals := ⟨by show d + 1 ≤ _; omega, by show _ + 60 * d ≤ _; omega⟩
  have hW : 2 * (F0 m pc lsA (.ref (z + o) :: st.map (yv z))).monitorRoom + ((st.map (yv z)).map fun v => v.category).sum ≤ 8 := lv_room (by rw [ycats]; exact hsz)
  have hpre : ∀ U : State, U.heap = H → s.WarmedH U.vm → yPc E z o hs (Value.ref (z + o) :: []).toArray U := fun U hU hW => ⟨rfl, by rw [hU]; exact hH, hK.moved hW⟩
  rcases hl with hl | ⟨host, hl⟩
  · exact ys_ret hz (va_runI (As := []) (rest := st.map (yv z)) (n := 0) ⟨hx1, hx2, hx3, hx4, hts⟩ hM ⟨callB_of 0 hts hG rfl rfl rfl (hts _ w3) (hts _ hl) ⟨w7.1, w7.2, w8⟩ hroom, w6, hts _ w2⟩ ⟨yPc_blind E z o hs, hpre⟩ rfl rfl hL.1 rfl hW hd ⟨by omega, by omega⟩) hS fun H1 locs1 a1 a2 => ih _ _ _ _ _ _ h H1 locs1 lsA a1 a2 hL
  · exact ys_ret hz (va_runIN (As := []) (rest := st.map (yv z)) (n := 0) ⟨hx1, hx2, hx3, hx4, hts⟩ hM ⟨va_cnB 0 hts hG rfl rfl rfl (hK.2.2 _ hl) (hts _ w3) ⟨w7.1, w7.2, w8⟩ hroom, w6, hts _ w2⟩ ⟨yPc_blind E z o hs, hpre⟩ rfl rfl hL.1 rfl hW hd ⟨by omega, by omega⟩) hS fun H1 locs1 a1 a2 => ih _ _ _ _ _ _ h H1 locs1 lsA a1 a2 hL
theorem yfits_s {ty : FieldType} {v : yW} (h : yfits ty v = true) : narrow ty (yv z v) = yv z v ∧ fits ty (yv z v) = true := by
  rcases v with x | _ | k
  · have : ty = .int := by simpa [yfits] using h
    subst this
    exact ⟨rfl, rfl⟩
  · cases h
  · cases ty <;> first | exact ⟨rfl, rfl⟩ | cases h
theorem ys_put (hx : yCx p R s m args meth c E z nL d j b) (ih : yIH p l e R s m args below meth c Q E z nL this K r) {pc i o f : Nat} {v : yW} {l1 st hs cs ss} {fs : List yW} {g : Nat → Int32} (hd : decode b pc = .ok (.putfield i, 3)) (hq : (j, i, f) ∈ yFD) (ho : hs[o]? = some (0, j, fs, g)) (hlen : f < fs.length) (hfit : yfits (zty j f) v = true)
    (h : K (pc + 3) l1 st (hs.set o (0, j, fs.set f v, g)) cs ss = some r) : yX p l e R s m args below meth c Q E z nL this pc l1 (v :: .inr (some o) :: st) hs cs ss := by
  intro H locs lsA hH hS hL
  obtain ⟨hx1, hx2, hx3, hx4, hts, hK, hx7, hR, hz⟩ := hx
  obtain ⟨w1, w2, w3, w4⟩ := yFD_ok _ hq
  dsimp only at w1 w2 w3 w4
  have hat := hH.2 o _ ho
  obtain ⟨-, hl2, cell, q1, q2, q3, q4⟩ := hat
  have hc := zCl_at w4
  have hKK : va_K E.2.2.1 zCl [] s := ⟨hK.1, fun k q h => by simp at h⟩
  have hap := va_apart (own := zcn j) hts (zlay_all w4) (zty j) (zty_ok w4) (znm_ok w4) hKK hc
  obtain ⟨hSl, hfc, kC, hkC, hkind⟩ := hK.1 j _ hc
  obtain ⟨cf, kf, fi, fd, hi, hsl⟩ := hSl f w3
  have hlay := u_lays hts (zlay_all w4) w3
  have hst := (u_facts hfc hkC hlay hi).1
  obtain ⟨n1, n2⟩ := yfits_s (z := z) hfit
  have h6 := u_fits hfc hkC hkind hlay hi (zty_ok w4 f w3) n1 n2
  have hcf : hasFlag fd.accessFlags Acc.final = false ∨ (m.cls = cf ∧ meth.name = "<init>") := by
    have hlw := hts _ (zlay_all w4 _ (u_in_lay w3))
    unfold u_lay at hlw
    split at hlw
    · obtain ⟨_, _, c', _, _, _, -, -, hf', -, -, -, hown2, -⟩ := Cond.laysFinal_spec hlw
      have e1 : c' = cf := by have := hi.symm.trans hf'; simp at this; exact this.1.symm
      rw [w2] at hown2
      exact Or.inr ⟨by rw [← e1]; exact Option.some.inj (hx4.symm.trans hown2), hx7⟩
    · have h7 := u_store hfc hkC hkind hlw hi (zty_ok w4 f w3) n1 n2
      exact Or.inl h7.1
  have ha : z + o < H.size := (Array.getElem?_eq_some_iff.mp q1).1
  refine W.putf hx1 hx2 hx4 (hts _ w1) hi hst hcf q1 (by rw [q3]; exact fun h => by cases h) (by rw [hsl]; exact k2_hasslot (q4 f w3)) h6.1 (by rw [q3, q2]; exact h6.2) rfl rfl hd ?_
  have e3 : ∀ q, q ≠ z + o → (H.setIfInBounds (z + o) (cell.setSlot fd.slot (yv z v)))[q]? = H[q]? := fun q hq => by simp [Array.getElem?_setIfInBounds, Ne.symm hq]
  have e2 : (H.setIfInBounds (z + o) (cell.setSlot fd.slot (yv z v))).size = H.size := by simp
  have e1 : (H.setIfInBounds (z + o) (cell.setSlot fd.slot (yv z v)))[z + o]? = some (cell.setSlot fd.slot (yv z v)) := by simp [Array.getElem?_setIfInBounds, ha]
  rw [hsl] at e1 e2 e3 ⊢
  refine ih _ _ _ _ _ _ h _ _ lsA (hH.set e2 e3 ⟨w4, by rw [List.length_set]; exact hl2, ?_⟩) (hS.put e2 e3 (Nat.le_add_right z o)) hL
  refine t_OB.to (V := updV (fun j => yv z (fs.getD j (.inl 0))) f (yv z v)) ⟨_, e1, q2, q3, t_set q4 hap w3 _⟩ fun j' _ => ?_
  unfold updV
  show (if j' = f then yv z v else yv z (fs.getD j' (.inl 0))) = yv z ((fs.set f v).getD j' (.inl 0))
  rw [List.getD_eq_getElem?_getD, List.getD_eq_getElem?_getD, List.getElem?_set]
  by_cases hjj : j' = f
  · subst hjj
    rw [if_pos rfl, if_pos rfl, if_pos hlen]
    rfl
  · rw [if_neg hjj, if_neg (Ne.symm hjj)]
theorem ys_get (hx : yCx p R s m args meth c E z nL d j b) (ih : yIH p l e R s m args below meth c Q E z nL this K r) {pc i o f : Nat} {v : yW} {l1 st hs cs ss} {fs : List yW} {g : Nat → Int32} (hd : decode b pc = .ok (.getfield i, 3)) (hq : (j, i, f) ∈ yFD) (ho : hs[o]? = some (0, j, fs, g)) (hv : fs[f]? = some v)
    (h : K (pc + 3) l1 (v :: st) hs cs ss = some r) : yX p l e R s m args below meth c Q E z nL this pc l1 (.inr (some o) :: st) hs cs ss := by
  intro H locs lsA hH hS hL
  obtain ⟨hx1, hx2, hx3, hx4, hts, hK, hx7, hR, hz⟩ := hx
  obtain ⟨w1, w2, w3, w4⟩ := yFD_ok _ hq
  dsimp only at w1 w2 w3 w4
  obtain ⟨-, hl2, cell, q1, q2, q3, q4⟩ := hH.2 o _ ho
  obtain ⟨hSl, hfc, kC, hkC, hkind⟩ := hK.1 j _ (zCl_at w4)
  obtain ⟨cf, kf, fi, fd, hi, hsl⟩ := hSl f w3
  refine W.getf hx1 hx2 hx4 (hts _ w1) hi (u_facts hfc hkC (u_lays hts (zlay_all w4) w3) hi).1 q1 (by rw [q3]; exact fun h => by cases h) (v := yv z v) ?_ rfl rfl hd (ih _ _ _ _ _ _ h H locs lsA hH hS hL)
  rw [hsl, q4 f w3]
  show some (yv z (fs.getD f (.inl 0))) = some (yv z v)
  rw [List.getD_eq_getElem?_getD, hv]
  rfl
theorem ys_iast (hx : yCx p R s m args meth c E z nL d j b) (ih : yIH p l e R s m args below meth c Q E z nL this K r) {pc o n : Nat} {i x : Int32} {l1 st hs cs ss} {fs : List yW} {g : Nat → Int32} (hd : decode b pc = .ok (.iastore, 1)) (ho : hs[o]? = some (1, n, fs, g)) (hi : zin i n = true) (harr : ∀ w, s.isArrayOf (arrV (E.2.1 1) n w) .int)
    (h : K (pc + 1) l1 st (hs.set o (1, n, fs, fun q => if q = i.toNatClampNeg then x else g q)) cs ss = some r) : yX p l e R s m args below meth c Q E z nL this pc l1 (.inl x :: .inl i :: .inr (some o) :: st) hs cs ss := by
  intro H locs lsA hH hS hL
  obtain ⟨hx1, hx2, hx3, hx4, hts, hK, hx7, hR, hz⟩ := hx
  have hat : H[z + o]? = some (arrV (E.2.1 1) n fun j => .int (g j)) := hH.2 o _ ho
  refine W.iast hx1 hx2 hat (harr _) (fun q => by cases q) (by show ¬ (i < 0 ∨ (arrV _ _ _).slots.size ≤ _); rw [arrV_size]; exact zin_spec hi) rfl rfl hd fun H1 e1 e2 e3 => ?_
  refine ih _ _ _ _ _ _ h H1 _ lsA (hH.set e2 e3 ?_) (hS.put e2 e3 (Nat.le_add_right z o)) hL
  show H1[z + o]? = _
  rw [e1, arrV_store]
  congr 2
  funext q
  unfold updV
  by_cases hq : q = i.toNatClampNeg
  · rw [if_pos hq]
    show _ = Value.int (if _ then _ else _)
    rw [if_pos hq]
  · rw [if_neg hq]
    show _ = Value.int (if _ then _ else _)
    rw [if_neg hq]
end YS2
