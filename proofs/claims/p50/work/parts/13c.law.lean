section YLW
variable {p : Program} {l : Launch} {e : Env} {R : Room} {s : State} {m : MethodId} {args : Array Value} {below : List Frame} {meth : Method} {c : Code} {Q : State → Prop} {E : zEn} {nL : Nat} {b : ByteArray} {own : String}
theorem yl_make (hx : p.tables.exec = Jvm.exec) (hb : c.code = b) (hml : c.maxLocals = nL) (hown : s.vm.findClass own = some m.cls) (hts : ∀ w ∈ zGW, w.before args s = true) (hK : yK E s) {d j i i2 pc cells slots : Nat} {hs hs2 : List yC} {H : Heap} {locs : List Loc} {lsA : Array Slot} {rest : List yW} (hj : j < 13)
    (hR : d + 1 ≤ R.frames ∧ 60 * d + 60 ≤ R.locals) (hc1 : cells + (1 + (yLim j).1) ≤ R.cells) (hc2 : slots + (zNF j + (yLim j).2) ≤ R.slots) (w1 : Cond.classLink own i (zcn j) ∈ zGW) (w2 : Cond.methodLink own i2 (yY j).1 ∈ zGW)
    (d1 : decode b pc = .ok (.new i, 3)) (d2 : decode b (pc + 3) = .ok (.dup, 1)) (d3 : decode b (pc + 4) = .ok (.invokespecial i2, 3)) (hev : yev d j hs.length (hs ++ [yOB j]) = some hs2) (hrest : rest = []) (hH : yRp E s.heap.size hs H) (hS : va_S (fun q => s.heap.size ≤ q) s.heap H locs) (hL : lsA.size = nL)
    (kk : ∀ (H1 : Heap) (locs1 : List Loc), yRp E s.heap.size hs2 H1 → va_S (fun q => s.heap.size ≤ q) s.heap H1 locs1 → W p l e R s m args below meth c H1 locs1 (cells + (1 + (yLim j).1)) (slots + (zNF j + (yLim j).2)) Q (F0 m (pc + 7) lsA [.ref (s.heap.size + hs.length)])) : W p l e R s m args below meth c H locs cells slots Q (F0 m pc lsA []) := by
  obtain ⟨v1, v2, v3, v4, v5, v6, v7, v8, v9, v10⟩ := yJall j hj
  have hKn := hK.1 j _ (zCl_at hj)
  refine W.newcK (n := zNF j) (C := zcn j) (h := s.heap.size + hs.length) hx hb hown (hts _ w1) (hts _ (zw_in j hj).1) (hts _ (zw_in j hj).2) rfl d1 (by omega) (by omega) hKn.2.1 hH.1 fun H1 kC hkC e1 z1 o1 => ?_
  have ho : ∀ x, x < H.size → H1[x]? = H[x]? := fun x q => o1 x (by rw [← hH.1]; exact q)
  have z1' : H1.size = H.size + 1 := by rw [z1, hH.1]
  have hb' := u_born (zty j) hts (zlay_all hj) hKn hkC e1 (zty_ok hj)
  have hH1 : yRp E s.heap.size (hs ++ [yOB j]) H1 := hH.push z1' ho (yborn hj hb')
  have hS1 := hS.grow (by omega) ho
  refine lv_dup hx hb d2 rfl ?_
  have hG := zgood (q := ((yY j).1, (yY j).2.1, (yY j).2.2, none)) v1
  have hM := yev_sound l E s.heap.size d j hs.length _ hs2 hj hev
  have hW : 2 * (F0 m (pc + 4) lsA [.ref (s.heap.size + hs.length), .ref (s.heap.size + hs.length)]).monitorRoom + (([.ref (s.heap.size + hs.length)] : List Value).map fun v => v.category).sum ≤ 8 := lv_room (by show 1 + 0 ≤ 8; omega)
  have hpre : ∀ U : State, U.heap = H1 → s.WarmedH U.vm → yPc E s.heap.size hs.length (hs ++ [yOB j]) (Value.ref (s.heap.size + hs.length) :: []).toArray U := fun U hU hW => ⟨rfl, by rw [hU]; exact hH1, hK.moved hW⟩
  refine ys_ret (Nat.le_refl _) (va_runI (As := []) (rest := [.ref (s.heap.size + hs.length)]) (n := 0) ⟨hx, hb, hml, hown, hts⟩ hM ⟨callB_of 0 hts hG rfl rfl rfl (hts _ v3) (hts _ w2) ⟨v7.1, v7.2, v8⟩ ⟨by show d + 1 ≤ _; omega, by show _ + 60 * d ≤ _; omega⟩, v6, hts _ v2⟩ ⟨yPc_blind _ _ _ _, hpre⟩ rfl rfl hL rfl hW d3 ⟨by omega, by omega⟩) hS1 fun H2 locs2 a1 a2 => ?_
  have := kk H2 locs2 a1 a2
  rw [show cells + (1 + (yLim j).1) = cells + 1 + (yLim j).1 by omega, show slots + (zNF j + (yLim j).2) = slots + zNF j + (yLim j).2 by omega] at this
  exact this
end YLW
