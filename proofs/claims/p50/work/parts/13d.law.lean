set_option maxRecDepth 100000
theorem yd_law : decode code 0 = .ok (.new 7, 3) ∧ decode code 3 = .ok (.dup, 1) ∧ decode code 4 = .ok (.invokespecial 9, 3) ∧ decode code 7 = .ok (.astore_n 1, 1) ∧ decode code 8 = .ok (.new 10, 3) ∧ decode code 11 = .ok (.dup, 1) ∧ decode code 12 = .ok (.invokespecial 12, 3) ∧ decode code 15 = .ok (.astore_n 2, 1) ∧ decode code 16 = .ok (.iconst 0, 1) ∧ decode code 17 = .ok (.istore_n 3, 1) := by decide +kernel
def zS0 (L : Nat) (xs : Nat → Int32) : zM := (fun _ k j => if k = 90 then xs j else if k = 91 then nI L else z0c k j, fun _ _ _ => 0)
def zscr (L : Nat) (xs : Nat → Int32) (σ : zM) : Prop := σ.1 0 91 0 = nI L ∧ ∀ j, j < L → σ.1 0 90 j = xs j
theorem zscr_sc (L : Nat) (xs : Nat → Int32) : zSC (zscr L xs) := by
  have h90 : ¬ (zkd 90).1 ≤ 2 := by decide +kernel
  have h91 : ¬ (zkd 91).1 ≤ 2 := by decide +kernel
  refine ⟨fun σ g k i v hk hs => ?_, fun σ g k i v hk hs => hs, fun σ g k sp g2 k2 dp n hk hs => ?_⟩
  · have e1 : k ≠ 90 := fun e => h90 (e ▸ hk)
    have e2 : k ≠ 91 := fun e => h91 (e ▸ hk)
    exact ⟨(if_neg fun z => e2 z.2.1.symm).trans hs.1, fun j hj => (if_neg fun z => e1 z.2.1.symm).trans (hs.2 j hj)⟩
  · have e1 : k2 ≠ 90 := fun e => h90 (e ▸ hk)
    have e2 : k2 ≠ 91 := fun e => h91 (e ▸ hk)
    exact ⟨(if_neg fun z => e2 z.2.1.symm).trans hs.1, fun j hj => (if_neg fun z => e1 z.2.1.symm).trans (hs.2 j hj)⟩
def zl0 : zL := [some (.inr (.inr (0, 90))), some (.inr (.inr (0, 30))), some (.inr (.inr (0, 60))), some (.inl 0)]
theorem zlaw {p : Program} {e : Env} {s : State} {m : MethodId} {below : List Frame} {meth : Method} {c : Code} (l : Launch) {b L : Nat} {xs : Nat → Int32} (hL2 : L < 2 ^ 31) (C0 : lw_At p s m meth c b L xs) {d : Nat} (hd : d ≤ 1000) {r : Int32 × Int64 × zM} (hrun : zrun (zev d) zT_281 18 zl0 [] (zS0 L xs) = some r) (hr1 : r.1 = 1) :
    W p l e room_1 s m #[Value.ref b] below meth c s.heap [] 0 0 (lw_Z below #[Value.ref b] s) (entryFrame m ([Value.ref b] : List Value).toArray 4) := by
  obtain ⟨hx, hb, hret, hml, hown, hts, hX, hbl, hlocks, hgv⟩ := C0
  obtain ⟨E, hE, hE90, hyK, hzK, hTx⟩ := ys_env hts hgv
  obtain ⟨h1, h2, e1, n1, e2, n2, hck⟩ := y_cells
  obtain ⟨d0, d3, d4, d7, d8, d11, d12, d15, d16, d17⟩ := yd_law
  have hgw := ygw hts
  have hl := lv_entry [Value.ref b] (n := 4) (Nat.le_of_ble_eq_true rfl)
  rw [lg_entry_eq]
  generalize (lg_sl [Value.ref b] ++ List.replicate (4 - (lg_sl [Value.ref b]).length) Slot.unset).toArray = ls at hl ⊢
  have hl : lv_has ls 4 [(0, .ref b)] := hl
  have hroom : 6 + 1 ≤ room_1.frames ∧ 60 * 6 + 60 ≤ room_1.locals := ⟨Nat.le_of_ble_eq_true rfl, Nat.le_of_ble_eq_true rfl⟩
  refine yl_make (own := RL) (j := 11) (hs := []) (hs2 := h1) (rest := []) hx hb hml hown hgw hyK (by decide) hroom (Nat.le_of_ble_eq_true (by decide +kernel)) (Nat.le_of_ble_eq_true (by decide +kernel)) zw_law.1.1 zw_law.1.2 d0 d3 d4 e1 rfl ⟨rfl, fun i q h => by cases h⟩ va_S.rf hl.1 fun H1 locs1 a1 a2 => ?_
  refine lv_astore_n hx hb d7 rfl hl (by decide) rfl (fun ls2 hl2 => ?_)
  refine yl_make (own := RL) (j := 12) (hs := h1) (hs2 := h2) (rest := []) hx hb hml hown hgw hyK (by decide) hroom (Nat.le_of_ble_eq_true (by decide +kernel)) (Nat.le_of_ble_eq_true (by decide +kernel)) zw_law.2.1 zw_law.2.2 d8 d11 d12 (by rw [n1]; exact e2) rfl a1 a2 hl2.1 fun H2 locs2 a3 a4 => ?_
  refine lv_astore_n hx hb d15 rfl hl2 (by decide) rfl (fun ls3 hl3 => ?_)
  refine lv_iconst (v := 0) hx hb d16 rfl ?_
  refine lv_istore_n hx hb d17 rfl hl3 (by decide) rfl (fun ls4 hl4 => ?_)
  have hHp : zHp E (zS0 L xs) H2 := y_hp hck a3 hE (fun g k j hg => by
    obtain ⟨q1, -, -⟩ := yNI_no k (zNI_far hg) (by omega)
    have q2 : k ≠ 91 := fun e => by subst e; revert hg; show ¬ g < zNI 91; rw [show zNI 91 = 0 by decide +kernel]; omega
    show (if k = 90 then xs j else if k = 91 then nI L else z0c k j) = _
    rw [if_neg q1, if_neg q2]) (fun _ _ _ => rfl)
  obtain ⟨n, hn⟩ := zrun_some hrun
  have hA : ∀ q, zA E q → (fun q : Nat => s.heap.size ≤ q) q := by
    rintro q ⟨g, k, hg, rfl⟩
    show s.heap.size ≤ E.1 g k
    rw [hE g k hg]
    omega
  generalize hcc : 0 + (1 + (yLim 11).1) + (1 + (yLim 12).1) = cells
  generalize hss : 0 + (zNF 11 + (yLim 11).2) + (zNF 12 + (yLim 12).2) = slots
  have hcl : cells ≤ 600000 := by rw [← hcc]; exact Nat.le_of_ble_eq_true (by decide +kernel)
  have hsl : slots ≤ 7302250 := by rw [← hss]; exact Nat.le_of_ble_eq_true (by decide +kernel)
  have hcx : zCx p room_1 s m #[Value.ref b] c cells slots E (fun q => s.heap.size ≤ q) zT_281.2.2.2 zT_281.1 code d true (zscr L xs) := by
    refine ⟨hx, hb, hml, hown, hgw, hzK, hTx, y_ij hE, hA, ⟨?_, ?_, hcl, hsl⟩, fun σ hs _ => ⟨L, xs, hL2, by rw [hE90]; exact hX, by rw [hE90]; exact hbl, by rw [hE90]; exact Nat.not_le.mpr hbl, hs.1, hs.2⟩⟩
    · show d + 1 ≤ 2048
      omega
    · show 60 * d + 60 ≤ 84000
      omega
  have hC : zCok l E d (zscr L xs) (zev d) := ⟨fun j as σ r h1 h2 h3 => zev_sound l E d j as σ r h1 h2 h3, fun j f hf as σ r hr => by
    cases d with
    | zero => cases hr
    | succ d => rw [zev_b hf] at hr; exact hr, fun j as σ r hr hs => zev_sc (zscr_sc L xs) d j as σ r hr hs⟩
  have hF : zFin p l e room_1 s m #[Value.ref b] below meth c cells slots (lw_Z below #[Value.ref b] s) E (fun q => s.heap.size ≤ q) H2.size zT_281.2.2.1 code (zscr L xs) r := by
    intro pc H locs lsA _ _ _ a8
    refine ⟨fun _ b2 => ?_, fun b1 => absurd b1 (by decide), fun b1 => absurd b1 (by decide)⟩
    refine va_forget (fun q hq => a8.2.2 q hq) ?_
    refine W.widen hcl hsl ?_
    rw [hr1]
    exact lw_ret hx hb hret hlocks b2
  have hXX := zs_run hcx hC (zscr_sc L xs) hF zckM_law n 18 zl0 [] (zS0 L xs) hn
  refine hXX H2 locs2 ls4 hHp ⟨rfl, fun j _ => rfl⟩ rfl a4 (lv_less hl4 fun q hq => ?_) (fun v hv => ?_) (fun _ h => by cases h)
  · have e30 : E.1 0 30 = s.heap.size + 0 := hE 0 30 (by decide +kernel)
    have e60 : E.1 0 60 = s.heap.size + 132 := hE 0 60 (by decide +kernel)
    have hq : q ∈ [((0 : Nat), Value.ref (E.1 0 90)), (1, .ref (E.1 0 30)), (2, .ref (E.1 0 60)), (3, .int 0)] := hq
    rw [hE90, e30, e60] at hq
    have n0 : s.heap.size + h1.length = s.heap.size + 132 := by rw [n1]
    show q ∈ [((3 : Nat), Value.int 0), (2, .ref (s.heap.size + h1.length)), (1, .ref (s.heap.size + ([] : List yC).length)), (0, .ref b)]
    rw [n0]
    simp only [List.mem_cons, List.not_mem_nil, or_false] at hq ⊢
    rcases hq with rfl | rfl | rfl | rfl
    · exact Or.inr (Or.inr (Or.inr rfl))
    · exact Or.inr (Or.inr (Or.inl rfl))
    · exact Or.inr (Or.inl rfl)
    · exact Or.inl rfl
  · have hz : ∀ v, some v ∈ zl0 → zokv true v := by
      intro v hv
      unfold zl0 at hv
      simp only [List.mem_cons, Option.some.injEq, List.not_mem_nil, or_false] at hv
      rcases hv with rfl | rfl | rfl | rfl
      · exact ⟨rfl, rfl, rfl⟩
      · show (0 : Nat) < zNI 30
        decide +kernel
      · show (0 : Nat) < zNI 60
        decide +kernel
      · trivial
    exact hz v hv
