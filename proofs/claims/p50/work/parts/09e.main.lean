section ZMN
variable {p : Program} {l : Launch} {e : Env} {R : Room} {s : State} {m : MethodId} {args : Array Value} {below : List Frame} {meth : Method} {c : Code} {cells slots : Nat} {Q : State → Prop} {E : zEn} {A : Nat → Prop} {N nL : Nat} {sb : Bool} {sc : zM → Prop} {own d rk : Nat} {b : ByteArray} {C : zC} {K : zKt} {r : Int32 × Int64 × zM}
theorem zs_getfield {pc nx tg i : Nat} {cc : Int32} {dd : Int64} {sw mk} {ls : zL} {st : List zV} {σ : zM} (hx : zCx p R s m args c cells slots E A nL own b d sb sc) (ih : zIH p l e R s m args below meth c cells slots Q E A N nL sb sc K r) (hc : zck b own nL (pc, (.getfield i, nx, tg, cc, dd, sw, mk)) = true) (h : zop C own rk K ls st σ (.getfield i, nx, tg, cc, dd, sw, mk) = some r) : zX p l e R s m args below meth c cells slots Q E A N nL sb sc pc ls st σ := by
  obtain ⟨hd, h1⟩ := zck_s hc
  obtain ⟨rfl, hd⟩ := znx (n := 3) hd (by simpa [zck1] using h1)
  obtain ⟨g, k, t, rfl, g1⟩ := zr1_s h
  cases hf : zfd own i with
  | none => rw [hf] at g1; cases g1
  | some q =>
    obtain ⟨ci, j⟩ := q
    rw [hf] at g1
    dsimp only at g1
    intro H locs lsA hH hsc hN hS hL hl hs
    rcases hk : zkd k with ⟨t1, n⟩
    rw [hk] at g1
    split at g1
    · rename_i n' heq
      cases heq
      obtain ⟨hb, g9⟩ := zcb_some g1
      clear g1
      have := Nat.eq_of_beq_eq_true hb
      subst this
      have hg := zok_obj (hs _ List.mem_cons_self) hk (by omega)
      rw [List.map_cons, zvv_ref (zkd_ne99 hk (by omega))]
      refine zm_get hx hH hk hg hf hd ?_
      cases hz : zed k j with
      | none =>
        rw [hz] at g9
        have h2 := ih _ _ _ _ g9 H locs lsA hH hsc hN hS hL hl (zoc trivial (zot hs))
        have e1 : zFv E σ g k j = .int (σ.1 g k j) := by unfold zFv; rw [hz]
        rw [e1]
        exact h2
      | some q2 =>
        obtain ⟨go, k2⟩ := q2
        rw [hz] at g9
        obtain ⟨a1, a2, a3⟩ := zed_ok hk hz hg rfl
        rcases hk2 : zkd k2 with ⟨t2, n2⟩
        rw [hk2] at a2
        cases go with
        | none =>
          have h2 := ih _ _ _ _ g9 H locs lsA hH hsc hN hS hL hl (zoc (zok_ref hk2 a2 a1) (zot hs))
          rw [List.map_cons, zvv_ref a3] at h2
          have e1 : zFv E σ g k j = .ref (E.1 g k2) := by unfold zFv; rw [hz]
          rw [e1]
          exact h2
        | some g2 =>
          have h2 := ih _ _ _ _ g9 H locs lsA hH hsc hN hS hL hl (zoc (zok_ref hk2 a2 a1) (zot hs))
          rw [List.map_cons, zvv_ref a3] at h2
          have e1 : zFv E σ g k j = .ref (E.1 g2 k2) := by unfold zFv; rw [hz]
          rw [e1]
          exact h2
    · rename_i n' heq
      cases heq
      obtain ⟨hb, g9⟩ := zcb_some g1
      clear g1
      have := Nat.eq_of_beq_eq_true hb
      subst this
      have hv := hs _ List.mem_cons_self
      unfold zokv at hv
      simp only [hk] at hv
      obtain ⟨hg, rfl⟩ := hv
      obtain ⟨hw, -, hj⟩ := zFok_all own _ (zfa_mem hf)
      have hj : j < 2 := by
        rcases hj with hj | hj | hj
        · exact absurd hj (by simp)
        · exact hj.2
        · exact absurd hj.1 (by simp)
      rw [List.map_cons, zvv_ref rfl]
      have htx := hx.tx.1.1 g hg
      have hj' : j = 0 ∨ j = 1 := by omega
      rcases hj' with rfl | rfl
      · obtain ⟨cf, kk, fi, f, cell, h1, h2, h3, h4, h5, h6⟩ := htx.2.2.1.kept hS.2.1
        have h7 := ih _ _ _ _ g9 H locs lsA hH hsc hN hS hL hl (zoc (by show zokv sb (.inr (.inr (g, 96))); exact ⟨hg, rfl⟩) (zot hs))
        exact W.getf hx.1 hx.2.1 hx.ow (hx.wd hw) h1 h2 h3 h4 (v := .ref (E.1 g 96)) h5 rfl rfl hd h7
      · obtain ⟨cf, kk, fi, f, cell, h1, h2, h3, h4, h5, h6⟩ := htx.2.1.kept hS.2.1
        have h7 := ih _ _ _ _ g9 H locs lsA hH hsc hN hS hL hl (zoc trivial (zot hs))
        exact W.getf hx.1 hx.2.1 hx.ow (hx.wd hw) h1 h2 h3 h4 (v := .int 0) h5 rfl rfl hd h7
    · cases g1
theorem zs_putfield {pc nx tg i : Nat} {cc : Int32} {dd : Int64} {sw mk} {ls : zL} {st : List zV} {σ : zM} (hx : zCx p R s m args c cells slots E A nL own b d sb sc) (hSC : zSC sc) (ih : zIH p l e R s m args below meth c cells slots Q E A N nL sb sc K r) (hc : zck b own nL (pc, (.putfield i, nx, tg, cc, dd, sw, mk)) = true) (h : zop C own rk K ls st σ (.putfield i, nx, tg, cc, dd, sw, mk) = some r) : zX p l e R s m args below meth c cells slots Q E A N nL sb sc pc ls st σ := by
  obtain ⟨hd, h1⟩ := zck_s hc
  obtain ⟨rfl, hd⟩ := znx (n := 3) hd (by simpa [zck1] using h1)
  simp only [zop] at h
  split at h
  · rename_i x g k t
    cases hf : zfd own i with
    | none => rw [hf] at h; cases h
    | some q =>
      obtain ⟨ci, j⟩ := q
      rw [hf] at h
      dsimp only at h
      rcases hk : zkd k with ⟨t1, n⟩
      rw [hk] at h
      split at h
      · rename_i n' heq
        cases heq
        obtain ⟨hb, g1⟩ := zcb_some h
        simp only [Bool.and_eq_true] at hb
        have := Nat.eq_of_beq_eq_true hb.1
        subst this
        have hz : zed k j = none := by
          cases hq : zed k j with
          | none => rfl
          | some w => rw [hq] at hb; cases hb.2
        have hgo : (zbl n j = true → x = 0 ∨ x = 1) ∧ K (pc + 3) ls t (zwI σ g k j x) = some r := by
          cases hbl : zbl n j with
          | true =>
            rw [hbl] at g1
            obtain ⟨h01, g1⟩ := zgd_some g1
            exact ⟨fun _ => z01_spec h01, g1⟩
          | false =>
            rw [hbl] at g1
            exact ⟨fun q => (by cases q), g1⟩
        intro H locs lsA hH hsc hN hS hL hl hs
        have hg := zok_obj (hs _ (List.mem_cons_of_mem _ List.mem_cons_self)) hk (by omega)
        show W p l e R s m args below meth c H locs cells slots Q (F0 m pc lsA (.int x :: zvv E (.inr (.inr (g, k))) :: t.map (zvv E)))
        rw [zvv_ref (zkd_ne99 hk (by omega))]
        exact zm_put hx hH hk hg hz hf hgo.1 hS hd fun H1 locs1 a1 a2 a3 => ih _ _ _ _ hgo.2 H1 locs1 lsA a1 (hSC.1 _ _ _ _ _ (by rw [hk]; omega) hsc) (a2.trans hN) a3 hL hl (zot (zot hs))
      · cases h
  · cases h
theorem zs_getstatic {pc nx tg i : Nat} {cc : Int32} {dd : Int64} {sw mk} {ls : zL} {st : List zV} {σ : zM} (hx : zCx p R s m args c cells slots E A nL own b d sb sc) (ih : zIH p l e R s m args below meth c cells slots Q E A N nL sb sc K r) (hc : zck b own nL (pc, (.getstatic i, nx, tg, cc, dd, sw, mk)) = true) (h : zop C own rk K ls st σ (.getstatic i, nx, tg, cc, dd, sw, mk) = some r) : zX p l e R s m args below meth c cells slots Q E A N nL sb sc pc ls st σ := by
  obtain ⟨hd, h1⟩ := zck_s hc
  obtain ⟨rfl, hd⟩ := znx (n := 3) hd (by simpa [zck1] using h1)
  simp only [zop] at h
  intro H locs lsA hH hsc hN hS hL hl hs
  split at h
  · rename_i hf
    obtain ⟨hw, -⟩ := zFok_all own _ (zfa_mem hf)
    exact va_gets hx.1 hx.2.1 hx.tx.2.2.1 hS hx.ow (hx.wd hw) (fun _ q => q) hd (ih _ _ _ _ h H locs lsA hH hsc hN hS hL hl (zoc trivial hs))
  · rename_i hf
    obtain ⟨hw, -⟩ := zFok_all own _ (zfa_mem hf)
    exact va_gets hx.1 hx.2.1 hx.tx.2.2.2.1 hS hx.ow (hx.wd hw) (fun _ q => q) hd (ih _ _ _ _ h H locs lsA hH hsc hN hS hL hl (zoc trivial hs))
  · cases h
theorem znI_cl {n : Nat} (h : n < 2 ^ 31) : (nI n).toNatClampNeg = n := nI_clamp h
theorem zs_iaload {pc nx tg : Nat} {cc : Int32} {dd : Int64} {sw mk} {ls : zL} {st : List zV} {σ : zM} (hx : zCx p R s m args c cells slots E A nL own b d sb sc) (ih : zIH p l e R s m args below meth c cells slots Q E A N nL sb sc K r) (hc : zck b own nL (pc, (.iaload, nx, tg, cc, dd, sw, mk)) = true) (h : zop C own rk K ls st σ (.iaload, nx, tg, cc, dd, sw, mk) = some r) : zX p l e R s m args below meth c cells slots Q E A N nL sb sc pc ls st σ := by
  obtain ⟨hd, h1⟩ := zck_s hc
  obtain ⟨rfl, hd⟩ := znx (n := 1) hd (by simpa [zck1] using h1)
  obtain ⟨i, g, k, t, rfl, g1⟩ := zir_s h
  intro H locs lsA hH hsc hN hS hL hl hs
  rcases hk : zkd k with ⟨t1, n⟩
  rw [hk] at g1
  split at g1
  · rename_i n' heq
    cases heq
    have hg := zok_obj (hs _ (List.mem_cons_of_mem _ List.mem_cons_self)) hk (by omega)
    show W p l e R s m args below meth c H locs cells slots Q (F0 m pc lsA (.int i :: zvv E (.inr (.inr (g, k))) :: t.map (zvv E)))
    rw [zvv_ref (zkd_ne99 hk (by omega))]
    have key : vp_in i n ∧ K (pc + 1) ls (.inl (σ.1 g k i.toNatClampNeg) :: t) σ = some r := by
      cases tg with
      | zero =>
        obtain ⟨hz, g1⟩ := zgd_some g1
        exact ⟨zin_spec hz, g1⟩
      | succ m' =>
        obtain ⟨hz, g1⟩ := zcb_some g1
        simp only [Bool.and_eq_true, decide_eq_true_eq] at hz
        have hm := Nat.blt_eq.mp hz.2
        have := zkd_len hk (by omega) (by omega)
        have hcl : i.toNatClampNeg = m' := by rw [hz.1]; exact nI_clamp (by omega)
        rw [hcl]
        exact ⟨by rw [hz.1]; exact vp_in_nI hm (by omega), g1⟩
    exact zm_iald hx hH hk hg key.1 hd (ih _ _ _ _ key.2 H locs lsA hH hsc hN hS hL hl (zoc trivial (zot (zot hs))))
  · rename_i n' heq
    cases heq
    obtain ⟨hz, g1⟩ := zgd_some g1
    have hv := hs _ (List.mem_cons_of_mem _ List.mem_cons_self)
    unfold zokv at hv
    simp only [hk] at hv
    obtain ⟨hsb, rfl, rfl⟩ := hv
    obtain ⟨L, xs, h32, hX, hbl, hbA, hlen, hxs⟩ := hx.2.2.2.2.2.2.2.2.2.2 σ hsc hsb
    have hz2 := zin_spec hz
    unfold zslen at hz2
    rw [hlen, nI_clamp h32] at hz2
    have hlt : i.toNatClampNeg < L := Nat.not_le.mp fun q => hz2 (Or.inr q)
    rw [hxs _ hlt] at g1
    exact va_sld hx.1 hx.2.1 hX hbl hbA hS hz2 hd (ih _ _ _ _ g1 H locs lsA hH hsc hN hS hL hl (zoc trivial (zot (zot hs))))
  · cases g1
theorem zs_laload {pc nx tg : Nat} {cc : Int32} {dd : Int64} {sw mk} {ls : zL} {st : List zV} {σ : zM} (hx : zCx p R s m args c cells slots E A nL own b d sb sc) (ih : zIH p l e R s m args below meth c cells slots Q E A N nL sb sc K r) (hc : zck b own nL (pc, (.laload, nx, tg, cc, dd, sw, mk)) = true) (h : zop C own rk K ls st σ (.laload, nx, tg, cc, dd, sw, mk) = some r) : zX p l e R s m args below meth c cells slots Q E A N nL sb sc pc ls st σ := by
  obtain ⟨hd, h1⟩ := zck_s hc
  obtain ⟨rfl, hd⟩ := znx (n := 1) hd (by simpa [zck1] using h1)
  obtain ⟨i, g, k, t, rfl, g1⟩ := zir_s h
  intro H locs lsA hH hsc hN hS hL hl hs
  rcases hk : zkd k with ⟨t1, n⟩
  rw [hk] at g1
  split at g1
  · rename_i n' heq
    cases heq
    obtain ⟨hz, g1⟩ := zgd_some g1
    have hg := zok_obj (hs _ (List.mem_cons_of_mem _ List.mem_cons_self)) hk (by omega)
    show W p l e R s m args below meth c H locs cells slots Q (F0 m pc lsA (.int i :: zvv E (.inr (.inr (g, k))) :: t.map (zvv E)))
    rw [zvv_ref (zkd_ne99 hk (by omega))]
    exact zm_lald hx hH hk hg (zin_spec hz) hd (ih _ _ _ _ g1 H locs lsA hH hsc hN hS hL hl (zoc trivial (zot (zot hs))))
  · cases g1
theorem zkd_inner {k t n : Nat} (h : zkd k = (t, n)) (ht : t = 3 ∨ t = 4) : zNI (k + 1) = n ∧ (zkd (k + 1)).1 < 5 ∧ Nat.beq (k + 1) 99 = false := by
  have hall : ∀ k, k < 98 → ((zkd k).1 = 3 ∨ (zkd k).1 = 4) → zNI (k + 1) = (zkd k).2 ∧ (zkd (k + 1)).1 < 5 ∧ Nat.beq (k + 1) 99 = false := by decide +kernel
  have := hall k (zkd_lt h (by omega)) (by rw [h]; exact ht)
  rw [h] at this
  exact this
theorem zs_aaload {pc nx tg : Nat} {cc : Int32} {dd : Int64} {sw mk} {ls : zL} {st : List zV} {σ : zM} (hx : zCx p R s m args c cells slots E A nL own b d sb sc) (ih : zIH p l e R s m args below meth c cells slots Q E A N nL sb sc K r) (hc : zck b own nL (pc, (.aaload, nx, tg, cc, dd, sw, mk)) = true) (h : zop C own rk K ls st σ (.aaload, nx, tg, cc, dd, sw, mk) = some r) : zX p l e R s m args below meth c cells slots Q E A N nL sb sc pc ls st σ := by
  obtain ⟨hd, h1⟩ := zck_s hc
  obtain ⟨rfl, hd⟩ := znx (n := 1) hd (by simpa [zck1] using h1)
  obtain ⟨i, g, k, t, rfl, g1⟩ := zir_s h
  intro H locs lsA hH hsc hN hS hL hl hs
  rcases hk : zkd k with ⟨t1, n⟩
  rw [hk] at g1
  have key : (t1 = 3 ∨ t1 = 4) ∧ zin i n = true ∧ K (pc + 1) ls (.inr (.inr (i.toNatClampNeg, k + 1)) :: t) σ = some r := by
    split at g1
    · rename_i n' heq
      cases heq
      obtain ⟨hz, g1⟩ := zgd_some g1
      exact ⟨Or.inl rfl, hz, g1⟩
    · rename_i n' heq
      cases heq
      obtain ⟨hz, g1⟩ := zgd_some g1
      exact ⟨Or.inr rfl, hz, g1⟩
    · cases g1
  obtain ⟨ht, hz, g1⟩ := key
  have hi := zin_spec hz
  have hlt : i.toNatClampNeg < n := Nat.not_le.mp fun q => hi (Or.inr q)
  obtain ⟨a1, a2, a3⟩ := zkd_inner hk ht
  rcases hk2 : zkd (k + 1) with ⟨t2, n2⟩
  rw [hk2] at a2
  have hg := zok_obj (hs _ (List.mem_cons_of_mem _ List.mem_cons_self)) hk (by omega)
  have h2 := ih _ _ _ _ g1 H locs lsA hH hsc hN hS hL hl (zoc (zok_ref hk2 a2 (by omega)) (zot (zot hs)))
  rw [List.map_cons, zvv_ref a3] at h2
  show W p l e R s m args below meth c H locs cells slots Q (F0 m pc lsA (.int i :: zvv E (.inr (.inr (g, k))) :: t.map (zvv E)))
  rw [zvv_ref (zkd_ne99 hk (by omega))]
  exact zm_aald hx hH hk ht hg hi hd h2
theorem zSL_len {g : Nat} : (zSL.getD g []).length < 2 ^ 31 := by
  have hall : ∀ g, g < 18 → (zSL.getD g []).length < 2 ^ 31 := by decide +kernel
  rcases Nat.lt_or_ge g 18 with h | h
  · exact hall g h
  · rw [List.getD_eq_getElem?_getD, List.getElem?_eq_none (by show zSL.length ≤ g; exact h)]
    decide
theorem zs_baload {pc nx tg : Nat} {cc : Int32} {dd : Int64} {sw mk} {ls : zL} {st : List zV} {σ : zM} (hx : zCx p R s m args c cells slots E A nL own b d sb sc) (ih : zIH p l e R s m args below meth c cells slots Q E A N nL sb sc K r) (hc : zck b own nL (pc, (.baload, nx, tg, cc, dd, sw, mk)) = true) (h : zop C own rk K ls st σ (.baload, nx, tg, cc, dd, sw, mk) = some r) : zX p l e R s m args below meth c cells slots Q E A N nL sb sc pc ls st σ := by
  obtain ⟨hd, h1⟩ := zck_s hc
  obtain ⟨rfl, hd⟩ := znx (n := 1) hd (by simpa [zck1] using h1)
  obtain ⟨i, g, k, t, rfl, g1⟩ := zir_s h
  intro H locs lsA hH hsc hN hS hL hl hs
  rcases hk : zkd k with ⟨t1, n⟩
  rw [hk] at g1
  split at g1
  · rename_i n' heq
    cases heq
    obtain ⟨hz, g1⟩ := zgd_some g1
    have hv := hs _ (List.mem_cons_of_mem _ List.mem_cons_self)
    unfold zokv at hv
    simp only [hk] at hv
    obtain ⟨hg, rfl⟩ := hv
    have hT := (hx.tx.1.1 g hg).2.2.2
    have e1 : (zSL.map List.length).getD g 0 = (zSL.getD g []).length := by
      rw [List.getD_eq_getElem?_getD, List.getElem?_map, List.getD_eq_getElem?_getD]
      cases zSL[g]? <;> rfl
    rw [e1] at hT
    exact va_tb hx.1 hx.2.1 hT hS (zin_spec hz) rfl hd (ih _ _ _ _ g1 H locs lsA hH hsc hN hS hL hl (zoc trivial (zot (zot hs))))
  · cases g1
theorem zs_iastore {pc nx tg : Nat} {cc : Int32} {dd : Int64} {sw mk} {ls : zL} {st : List zV} {σ : zM} (hx : zCx p R s m args c cells slots E A nL own b d sb sc) (hSC : zSC sc) (ih : zIH p l e R s m args below meth c cells slots Q E A N nL sb sc K r) (hc : zck b own nL (pc, (.iastore, nx, tg, cc, dd, sw, mk)) = true) (h : zop C own rk K ls st σ (.iastore, nx, tg, cc, dd, sw, mk) = some r) : zX p l e R s m args below meth c cells slots Q E A N nL sb sc pc ls st σ := by
  obtain ⟨hd, h1⟩ := zck_s hc
  obtain ⟨rfl, hd⟩ := znx (n := 1) hd (by simpa [zck1] using h1)
  obtain ⟨v, i, g, k, t, rfl, g1⟩ := ziir_s h
  intro H locs lsA hH hsc hN hS hL hl hs
  rcases hk : zkd k with ⟨t1, n⟩
  rw [hk] at g1
  split at g1
  · rename_i n' heq
    cases heq
    have hg := zok_obj (hs _ (List.mem_cons_of_mem _ (List.mem_cons_of_mem _ List.mem_cons_self))) hk (by omega)
    show W p l e R s m args below meth c H locs cells slots Q (F0 m pc lsA (.int v :: .int i :: zvv E (.inr (.inr (g, k))) :: t.map (zvv E)))
    rw [zvv_ref (zkd_ne99 hk (by omega))]
    have key : vp_in i n ∧ K (pc + 1) ls t (zwI σ g k i.toNatClampNeg v) = some r := by
      cases tg with
      | zero =>
        obtain ⟨hz, g1⟩ := zgd_some g1
        exact ⟨zin_spec hz, g1⟩
      | succ m' =>
        obtain ⟨hz, g1⟩ := zcb_some g1
        simp only [Bool.and_eq_true, decide_eq_true_eq] at hz
        have hm := Nat.blt_eq.mp hz.2
        have := zkd_len hk (by omega) (by omega)
        have hcl : i.toNatClampNeg = m' := by rw [hz.1]; exact nI_clamp (by omega)
        rw [hcl]
        exact ⟨by rw [hz.1]; exact vp_in_nI hm (by omega), g1⟩
    exact zm_iast hx hH hk hg key.1 hS hd fun H1 locs1 a1 a2 a3 => ih _ _ _ _ key.2 H1 locs1 lsA a1 (hSC.1 _ _ _ _ _ (by rw [hk]; omega) hsc) (a2.trans hN) a3 hL hl (zot (zot (zot hs)))
  · cases g1
theorem zs_lastore {pc nx tg : Nat} {cc : Int32} {dd : Int64} {sw mk} {ls : zL} {st : List zV} {σ : zM} (hx : zCx p R s m args c cells slots E A nL own b d sb sc) (hSC : zSC sc) (ih : zIH p l e R s m args below meth c cells slots Q E A N nL sb sc K r) (hc : zck b own nL (pc, (.lastore, nx, tg, cc, dd, sw, mk)) = true) (h : zop C own rk K ls st σ (.lastore, nx, tg, cc, dd, sw, mk) = some r) : zX p l e R s m args below meth c cells slots Q E A N nL sb sc pc ls st σ := by
  obtain ⟨hd, h1⟩ := zck_s hc
  obtain ⟨rfl, hd⟩ := znx (n := 1) hd (by simpa [zck1] using h1)
  obtain ⟨v, i, g, k, t, rfl, g1⟩ := zlir_s h
  intro H locs lsA hH hsc hN hS hL hl hs
  rcases hk : zkd k with ⟨t1, n⟩
  rw [hk] at g1
  split at g1
  · rename_i n' heq
    cases heq
    obtain ⟨hz, g1⟩ := zgd_some g1
    have hg := zok_obj (hs _ (List.mem_cons_of_mem _ (List.mem_cons_of_mem _ List.mem_cons_self))) hk (by omega)
    show W p l e R s m args below meth c H locs cells slots Q (F0 m pc lsA (.long v :: .int i :: zvv E (.inr (.inr (g, k))) :: t.map (zvv E)))
    rw [zvv_ref (zkd_ne99 hk (by omega))]
    exact zm_last hx hH hk hg (zin_spec hz) hS hd fun H1 locs1 a1 a2 a3 => ih _ _ _ _ g1 H1 locs1 lsA a1 (hSC.2.1 _ _ _ _ _ (by rw [hk]; omega) hsc) (a2.trans hN) a3 hL hl (zot (zot (zot hs)))
  · cases g1
theorem zs_arraylength {pc nx tg : Nat} {cc : Int32} {dd : Int64} {sw mk} {ls : zL} {st : List zV} {σ : zM} (hx : zCx p R s m args c cells slots E A nL own b d sb sc) (ih : zIH p l e R s m args below meth c cells slots Q E A N nL sb sc K r) (hc : zck b own nL (pc, (.arraylength, nx, tg, cc, dd, sw, mk)) = true) (h : zop C own rk K ls st σ (.arraylength, nx, tg, cc, dd, sw, mk) = some r) : zX p l e R s m args below meth c cells slots Q E A N nL sb sc pc ls st σ := by
  obtain ⟨hd, h1⟩ := zck_s hc
  obtain ⟨rfl, hd⟩ := znx (n := 1) hd (by simpa [zck1] using h1)
  obtain ⟨g, k, t, rfl, g1⟩ := zr1_s h
  intro H locs lsA hH hsc hN hS hL hl hs
  rcases hk : zkd k with ⟨t1, n⟩
  rw [hk] at g1
  split at g1
  · rename_i n' heq
    cases heq
    have hg := zok_obj (hs _ List.mem_cons_self) hk (by omega)
    rw [List.map_cons, zvv_ref (zkd_ne99 hk (by omega))]
    refine W.alen hx.1 hx.2.1 (hH.arr1 hk hg) (hx.k.2.1 n (fun j => .int (σ.1 g k j))) (n := nI n) ?_ rfl rfl hd (ih _ _ _ _ g1 H locs lsA hH hsc hN hS hL hl (zoc trivial (zot hs)))
    rw [arrV_size]
    rfl
  · rename_i n' heq
    cases heq
    have hv := hs _ List.mem_cons_self
    unfold zokv at hv
    simp only [hk] at hv
    obtain ⟨hsb, rfl, rfl⟩ := hv
    obtain ⟨L, xs, h32, hX, hbl, hbA, hlen, hxs⟩ := hx.2.2.2.2.2.2.2.2.2.2 σ hsc hsb
    rw [hlen] at g1
    exact va_slen hx.1 hx.2.1 hX hbl hbA hS hd (ih _ _ _ _ g1 H locs lsA hH hsc hN hS hL hl (zoc trivial (zot hs)))
  · rename_i n' heq
    cases heq
    have hv := hs _ List.mem_cons_self
    unfold zokv at hv
    simp only [hk] at hv
    obtain ⟨hg, rfl⟩ := hv
    have hT := (hx.tx.1.1 g hg).2.2.2
    have e1 : (zSL.map List.length).getD g 0 = (zSL.getD g []).length := by
      rw [List.getD_eq_getElem?_getD, List.getElem?_map, List.getD_eq_getElem?_getD]
      cases zSL[g]? <;> rfl
    rw [e1] at hT
    exact va_tlen hx.1 hx.2.1 hT hS rfl hd (ih _ _ _ _ g1 H locs lsA hH hsc hN hS hL hl (zoc trivial (zot hs)))
  · cases g1
theorem zs_dup {pc nx tg : Nat} {cc : Int32} {dd : Int64} {sw mk} {ls : zL} {st : List zV} {σ : zM} (hx : zCx p R s m args c cells slots E A nL own b d sb sc) (ih : zIH p l e R s m args below meth c cells slots Q E A N nL sb sc K r) (hc : zck b own nL (pc, (.dup, nx, tg, cc, dd, sw, mk)) = true) (h : zop C own rk K ls st σ (.dup, nx, tg, cc, dd, sw, mk) = some r) : zX p l e R s m args below meth c cells slots Q E A N nL sb sc pc ls st σ := by
  obtain ⟨hd, h1⟩ := zck_s hc
  obtain ⟨rfl, hd⟩ := znx (n := 1) hd (by simpa [zck1] using h1)
  simp only [zop] at h
  intro H locs lsA hH hsc hN hS hL hl hs
  split at h
  · exact lv_dup hx.1 hx.2.1 hd rfl (ih _ _ _ _ h H locs lsA hH hsc hN hS hL hl (zoc trivial hs))
  · exact lv_dup hx.1 hx.2.1 hd (zcat hx.cat _) (ih _ _ _ _ h H locs lsA hH hsc hN hS hL hl (zoc (hs _ List.mem_cons_self) hs))
  · cases h
theorem zs_pop {pc nx tg : Nat} {cc : Int32} {dd : Int64} {sw mk} {ls : zL} {st : List zV} {σ : zM} (hx : zCx p R s m args c cells slots E A nL own b d sb sc) (ih : zIH p l e R s m args below meth c cells slots Q E A N nL sb sc K r) (hc : zck b own nL (pc, (.pop, nx, tg, cc, dd, sw, mk)) = true) (h : zop C own rk K ls st σ (.pop, nx, tg, cc, dd, sw, mk) = some r) : zX p l e R s m args below meth c cells slots Q E A N nL sb sc pc ls st σ := by
  obtain ⟨hd, h1⟩ := zck_s hc
  obtain ⟨rfl, hd⟩ := znx (n := 1) hd (by simpa [zck1] using h1)
  simp only [zop] at h
  intro H locs lsA hH hsc hN hS hL hl hs
  split at h
  · exact lv_pop hx.1 hx.2.1 hd rfl (ih _ _ _ _ h H locs lsA hH hsc hN hS hL hl (zot hs))
  · exact lv_pop hx.1 hx.2.1 hd (zcat hx.cat _) (ih _ _ _ _ h H locs lsA hH hsc hN hS hL hl (zot hs))
  · cases h
theorem zs_dup2 {pc nx tg : Nat} {cc : Int32} {dd : Int64} {sw mk} {ls : zL} {st : List zV} {σ : zM} (hx : zCx p R s m args c cells slots E A nL own b d sb sc) (ih : zIH p l e R s m args below meth c cells slots Q E A N nL sb sc K r) (hc : zck b own nL (pc, (.dup2, nx, tg, cc, dd, sw, mk)) = true) (h : zop C own rk K ls st σ (.dup2, nx, tg, cc, dd, sw, mk) = some r) : zX p l e R s m args below meth c cells slots Q E A N nL sb sc pc ls st σ := by
  obtain ⟨hd, h1⟩ := zck_s hc
  obtain ⟨rfl, hd⟩ := znx (n := 1) hd (by simpa [zck1] using h1)
  obtain ⟨i, g, k, t, rfl, g1⟩ := zir_s h
  intro H locs lsA hH hsc hN hS hL hl hs
  exact lv_dup2_11 hx.1 hx.2.1 hd rfl (zcat hx.cat _) (ih _ _ _ _ g1 H locs lsA hH hsc hN hS hL hl (zoc trivial (zoc (hs _ (List.mem_cons_of_mem _ List.mem_cons_self)) hs)))
theorem zsk_s {pc : Nat} {x : Int32} {F : Nat → zR} {df : Nat} : ∀ {sw : List (Int32 × Nat)} {os : List Int} {lo : Int}, zsk pc lo sw os = true → zsw F x df sw = some r → ((x.toInt < lo ∨ lo + (os.length : Int) ≤ x.toInt) ∧ F df = some r) ∨ (¬ x.toInt < lo ∧ ∃ (o : Int) (t : Nat), os[(x.toInt - lo).toNat]? = some o ∧ x.toInt < lo + (os.length : Int) ∧ (pc : Int) + o = (t : Int) ∧ F t = some r)
  | [], [], lo, _, h => Or.inl ⟨by simp only [List.length_nil]; omega, h⟩
  | (v, t) :: sw, o :: os, lo, hk, h => by
    simp only [zsk, Bool.and_eq_true, decide_eq_true_eq] at hk
    obtain ⟨⟨h1, h2⟩, h3⟩ := hk
    unfold zsw at h
    by_cases hv : x = v
    · rw [if_pos hv] at h
      subst hv
      refine Or.inr ⟨by omega, o, t, ?_, by rw [List.length_cons]; omega, h2, h⟩
      rw [h1, Int.sub_self]
      rfl
    · rw [if_neg hv] at h
      have hne : ¬ x.toInt = lo := fun q => hv (Int32.toInt_inj.mp (q.trans h1.symm))
      rcases zsk_s h3 h with ⟨h4, h5⟩ | ⟨h4, o', t', h5, h6, h7, h8⟩
      · refine Or.inl ⟨?_, h5⟩
        rw [List.length_cons]
        omega
      · refine Or.inr ⟨by omega, o', t', ?_, by rw [List.length_cons]; omega, h7, h8⟩
        rw [show (x.toInt - lo).toNat = (x.toInt - (lo + 1)).toNat + 1 by omega, List.getElem?_cons_succ]
        exact h5
  | [], _ :: _, _, hk, _ => by cases hk
  | _ :: _, [], _, hk, _ => by cases hk
theorem zs_tableswitch {pc nx tg : Nat} {cc : Int32} {dd : Int64} {sw mk} {ls : zL} {st : List zV} {σ : zM} {df lo hi : Int} {os : Array Int} (hx : zCx p R s m args c cells slots E A nL own b d sb sc) (ih : zIH p l e R s m args below meth c cells slots Q E A N nL sb sc K r) (hc : zck b own nL (pc, (.tableswitch df lo hi os, nx, tg, cc, dd, sw, mk)) = true) (h : zop C own rk K ls st σ (.tableswitch df lo hi os, nx, tg, cc, dd, sw, mk) = some r) : zX p l e R s m args below meth c cells slots Q E A N nL sb sc pc ls st σ := by
  obtain ⟨hd, h1⟩ := zck_s hc
  simp only [zck1, Bool.and_eq_true, decide_eq_true_eq] at h1
  obtain ⟨h1, h2, h3⟩ := h1
  obtain ⟨x, t, rfl, g1⟩ := zo1_s h
  intro H locs lsA hH hsc hN hS hL hl hs
  rcases zsk_s (F := fun t' => K t' ls t σ) h3 g1 with ⟨h4, h5⟩ | ⟨h4, o, t', h5, h6, h7, h8⟩
  · exact lv_tableOut hx.1 hx.2.1 hd (by omega) h1 (ih _ _ _ _ h5 H locs lsA hH hsc hN hS hL hl (zot hs))
  · exact lv_tableIn hx.1 hx.2.1 hd h4 (by omega) (by rw [← Array.getElem?_toList]; exact h5) h7 (ih _ _ _ _ h8 H locs lsA hH hsc hN hS hL hl (zot hs))
theorem zsl_s {pc tg : Nat} {x : Int32} {F : Nat → zR} {df : Int} (hdf : (pc : Int) + df = (tg : Int)) : ∀ {sw : List (Int32 × Nat)} {ps : List (Int × Int)}, zsl pc sw ps = true → zsw F x tg sw = some r → ∃ t : Nat, (pc : Int) + Op.lookupswitch.offset ps df x.toInt = (t : Int) ∧ F t = some r
  | [], [], _, h => ⟨tg, hdf, h⟩
  | (v, t) :: sw, (a, o) :: ps, hk, h => by
    simp only [zsl, Bool.and_eq_true, decide_eq_true_eq] at hk
    obtain ⟨⟨h1, h2⟩, h3⟩ := hk
    unfold zsw at h
    rw [Op.lookupswitch.offset_cons]
    by_cases hv : x = v
    · rw [if_pos hv] at h
      subst hv
      rw [if_pos h1.symm]
      exact ⟨t, h2, h⟩
    · rw [if_neg hv] at h
      rw [if_neg fun q => hv (Int32.toInt_inj.mp (q.symm.trans h1.symm))]
      exact zsl_s hdf h3 h
  | [], _ :: _, hk, _ => by cases hk
  | _ :: _, [], hk, _ => by cases hk
theorem zs_lookupswitch {pc nx tg : Nat} {cc : Int32} {dd : Int64} {sw mk} {ls : zL} {st : List zV} {σ : zM} {df : Int} {ps : Array (Int × Int)} (hx : zCx p R s m args c cells slots E A nL own b d sb sc) (ih : zIH p l e R s m args below meth c cells slots Q E A N nL sb sc K r) (hc : zck b own nL (pc, (.lookupswitch df ps, nx, tg, cc, dd, sw, mk)) = true) (h : zop C own rk K ls st σ (.lookupswitch df ps, nx, tg, cc, dd, sw, mk) = some r) : zX p l e R s m args below meth c cells slots Q E A N nL sb sc pc ls st σ := by
  obtain ⟨hd, h1⟩ := zck_s hc
  simp only [zck1, Bool.and_eq_true, decide_eq_true_eq] at h1
  obtain ⟨h1, h2, h3⟩ := h1
  obtain ⟨x, t, rfl, g1⟩ := zo1_s h
  intro H locs lsA hH hsc hN hS hL hl hs
  obtain ⟨t', h5, h6⟩ := zsl_s (F := fun t' => K t' ls t σ) h1 h3 g1
  exact lv_lookup hx.1 hx.2.1 hd h2 rfl h5 (ih _ _ _ _ h6 H locs lsA hH hsc hN hS hL hl (zot hs))
end ZMN
