theorem zCl_at {ci : Nat} (h : ci < 13) : zCl[ci]? = some (zcn ci, zTX ci, zNF ci) := by
  match ci, h with
  | 0, _ => rfl
  | 1, _ => rfl
  | 2, _ => rfl
  | 3, _ => rfl
  | 4, _ => rfl
  | 5, _ => rfl
  | 6, _ => rfl
  | 7, _ => rfl
  | 8, _ => rfl
  | 9, _ => rfl
  | 10, _ => rfl
  | 11, _ => rfl
  | 12, _ => rfl
theorem zlay_all {ci : Nat} (h : ci < 13) : ∀ w ∈ u_ws (zcn ci) (zTX ci) (zNF ci), w ∈ zGW := by
  match ci, h with
  | 0, _ => exact zlay_X0
  | 1, _ => exact zlay_X1
  | 2, _ => exact zlay_X2
  | 3, _ => exact zlay_X3
  | 4, _ => exact zlay_X4
  | 5, _ => exact zlay_X5
  | 6, _ => exact zlay_X6
  | 7, _ => exact zlay_X7
  | 8, _ => exact zlay_X8
  | 9, _ => exact zlay_X9
  | 10, _ => exact zlay_X10
  | 11, _ => exact zlay_X11
  | 12, _ => exact zlay_X12
theorem zflw_lo {own i ci j : Nat} (h : ci < 13) : zflw own i ci j = .fieldLink (zcn own) i ((zTX ci) j).1 ((zTX ci) j).2.1 ((zTX ci) j).2.2.1 := by
  match ci, h with
  | 0, _ => rfl
  | 1, _ => rfl
  | 2, _ => rfl
  | 3, _ => rfl
  | 4, _ => rfl
  | 5, _ => rfl
  | 6, _ => rfl
  | 7, _ => rfl
  | 8, _ => rfl
  | 9, _ => rfl
  | 10, _ => rfl
  | 11, _ => rfl
  | 12, _ => rfl
def ztyl : List (Nat → FieldType) := [tyX0, tyX1, tyX2, tyX3, tyX4, tyX5, tyX6, tyX7, tyX8, tyX9, tyX10, tyX11, tyX12]
def zty (ci : Nat) : Nat → FieldType := ztyl.getD ci (fun _ => .int)
theorem zty_ok {ci : Nat} (h : ci < 13) : ∀ k, k < zNF ci → parseFieldDescriptor ((zTX ci) k).2.2.1 = some (zty ci k) := by
  match ci, h with
  | 0, _ => exact tyX0_ok
  | 1, _ => exact tyX1_ok
  | 2, _ => exact tyX2_ok
  | 3, _ => exact tyX3_ok
  | 4, _ => exact tyX4_ok
  | 5, _ => exact tyX5_ok
  | 6, _ => exact tyX6_ok
  | 7, _ => exact tyX7_ok
  | 8, _ => exact tyX8_ok
  | 9, _ => exact tyX9_ok
  | 10, _ => exact tyX10_ok
  | 11, _ => exact tyX11_ok
  | 12, _ => exact tyX12_ok
theorem znm_ok {ci : Nat} (h : ci < 13) : ∀ a, a < zNF ci → ∀ b, b < zNF ci → a ≠ b → ((zTX ci) a).2.1 ≠ ((zTX ci) b).2.1 := by
  match ci, h with
  | 0, _ => exact nmX0
  | 1, _ => exact nmX1
  | 2, _ => exact nmX2
  | 3, _ => exact nmX3
  | 4, _ => exact nmX4
  | 5, _ => exact nmX5
  | 6, _ => exact nmX6
  | 7, _ => exact nmX7
  | 8, _ => exact nmX8
  | 9, _ => exact nmX9
  | 10, _ => exact nmX10
  | 11, _ => exact nmX11
  | 12, _ => exact nmX12
theorem zkd_far {k : Nat} (h : 98 ≤ k) : zkd k = (9, 0) := by
  have : zKD.length = 98 := by decide +kernel
  unfold zkd
  rw [List.getD_eq_getElem?_getD, List.getElem?_eq_none (by omega)]
  rfl
theorem zkd_lt {k t n : Nat} (h : zkd k = (t, n)) (ht : t < 9) : k < 98 := by
  rcases Nat.lt_or_ge k 98 with q | q
  · exact q
  · rw [zkd_far q] at h; cases h; omega
theorem zkd_cls {k n : Nat} (h : zkd k = (0, n)) : n < 13 := by
  have hall : ∀ k, k < 98 → (zkd k).1 = 0 → (zkd k).2 < 13 := by decide +kernel
  have := hall k (zkd_lt h (by omega)) (by rw [h])
  rw [h] at this
  exact this
theorem zkd_len {k t n : Nat} (h : zkd k = (t, n)) (ht : t < 5) (h0 : 0 < t) : n ≤ 320 := by
  have hall : ∀ k, k < 98 → (zkd k).1 < 5 → 0 < (zkd k).1 → (zkd k).2 ≤ 320 := by decide +kernel
  have := hall k (zkd_lt h (by omega)) (by rw [h]; exact ht) (by rw [h]; exact h0)
  rw [h] at this
  exact this
theorem zput_ok {k ci j : Nat} (h : zkd k = (0, ci)) (hj : j < zNF ci) (hz : zed k j = none) : ((zTX ci) j).2.2.2 = false ∧ zty ci j = (if zbl ci j = true then FieldType.boolean else FieldType.int) := by
  have hall : ∀ k, k < 98 → (zkd k).1 = 0 → ∀ j, j < zNF (zkd k).2 → zed k j = none → ((zTX (zkd k).2) j).2.2.2 = false ∧ zty (zkd k).2 j = (if zbl (zkd k).2 j = true then FieldType.boolean else FieldType.int) := by decide +kernel
  have := hall k (zkd_lt h (by omega)) (by rw [h]) j (by rw [h]; exact hj) hz
  rw [h] at this
  exact this
theorem zed_ok {k ci j g2 k2 : Nat} {go : Option Nat} (h : zkd k = (0, ci)) (hz : zed k j = some (go, k2)) {g : Nat} (hg : g < zNI k) (he : g2 = go.getD g) : g2 < zNI k2 ∧ (zkd k2).1 < 5 ∧ Nat.beq k2 99 = false := by
  have hall : ∀ k, k < 98 → (zkd k).1 = 0 → ∀ x ∈ zED.getD k [], ∀ q, x = some q → ((q.1 = none → zNI k ≤ zNI q.2) ∧ (∀ g0, q.1 = some g0 → g0 < zNI q.2) ∧ (zkd q.2).1 < 5 ∧ Nat.beq q.2 99 = false) := by
    intro k hk h0 x hx q hq
    have : (zED.getD k []).all (fun x => match x with | none => true | some (none, k2) => decide (zNI k ≤ zNI k2) && decide ((zkd k2).1 < 5) && !Nat.beq k2 99 | some (some g0, k2) => decide (g0 < zNI k2) && decide ((zkd k2).1 < 5) && !Nat.beq k2 99) = true := by
      have hq : ∀ k, k < 98 → (zED.getD k []).all (fun x => match x with | none => true | some (none, k2) => decide (zNI k ≤ zNI k2) && decide ((zkd k2).1 < 5) && !Nat.beq k2 99 | some (some g0, k2) => decide (g0 < zNI k2) && decide ((zkd k2).1 < 5) && !Nat.beq k2 99) = true := by decide +kernel
      exact hq k hk
    have h1 := List.all_eq_true.mp this x hx
    subst hq
    obtain ⟨go, k2⟩ := q
    cases go with
    | none =>
      simp only [Bool.and_eq_true, decide_eq_true_eq, Bool.not_eq_true'] at h1
      exact ⟨fun _ => h1.1.1, fun _ z => (by cases z), h1.1.2, h1.2⟩
    | some g0 =>
      simp only [Bool.and_eq_true, decide_eq_true_eq, Bool.not_eq_true'] at h1
      exact ⟨fun z => (by cases z), fun _ z => (by cases z; exact h1.1.1), h1.1.2, h1.2⟩
  unfold zed at hz
  rw [List.getD_eq_getElem?_getD] at hz
  cases hx : (zED.getD k [])[j]? with
  | none => rw [hx] at hz; cases hz
  | some x =>
    rw [hx] at hz
    have hx' : x = some (go, k2) := hz
    obtain ⟨a1, a2, a3, a4⟩ := hall k (zkd_lt h (by omega)) (by rw [h]) x (List.mem_of_getElem? hx) _ hx'
    subst he
    cases go with
    | none => exact ⟨Nat.lt_of_lt_of_le hg (a1 rfl), a3, a4⟩
    | some g0 => exact ⟨a2 g0 rfl, a3, a4⟩
section ZMM
variable {p : Program} {l : Launch} {e : Env} {R : Room} {s : State} {m : MethodId} {args : Array Value} {below : List Frame} {meth : Method} {c : Code} {cells slots : Nat} {Q : State → Prop} {E : zEn} {A : Nat → Prop} {N nL : Nat} {sb : Bool} {sc : zM → Prop} {own d rk : Nat} {b : ByteArray} {C : zC} {K : zKt} {r : Int32 × Int64 × zM}
theorem zm_get (hx : zCx p R s m args c cells slots E A nL own b d sb sc) {H : Heap} {locs : List Loc} {lsA : Array Slot} {σ : zM} {g k i ci j pc : Nat} {rest : List Value} (hH : zHp E σ H) (hk : zkd k = (0, ci)) (hg : g < zNI k) (hf : zfd own i = some (ci, j)) (hd : decode b pc = .ok (.getfield i, 3))
    (kk : W p l e R s m args below meth c H locs cells slots Q (F0 m (pc + 3) lsA (zFv E σ g k j :: rest))) : W p l e R s m args below meth c H locs cells slots Q (F0 m pc lsA (.ref (E.1 g k) :: rest)) := by
  have hci := zkd_cls hk
  obtain ⟨hw, hj, -⟩ := zFok_all own _ (zfa_mem hf)
  have hj := hj hci
  obtain ⟨hS, hfc, kC, hkC, hkind⟩ := hx.k.1 ci _ (zCl_at hci)
  obtain ⟨cf, kf, fi, f, hi, hsl⟩ := hS j hj
  obtain ⟨cell, q1, q2, q3, q4⟩ := hH.obj hk hg
  have hw : Cond.fieldLink (zcn own) i ((zTX ci) j).1 ((zTX ci) j).2.1 ((zTX ci) j).2.2.1 ∈ zGW := by
    have := zflw_lo (own := own) (i := i) (j := j) hci
    rw [← this]
    exact hw
  refine W.getf hx.1 hx.2.1 hx.ow (hx.wd hw) hi (u_facts (args := args) hfc hkC (u_lays (fun w h => hx.wd h) (zlay_all hci) hj) hi).1 q1 (by rw [q3]; exact fun h => by cases h) (v := zFv E σ g k j) ?_ rfl rfl hd kk
  rw [hsl, q4 j hj]
theorem zm_put (hx : zCx p R s m args c cells slots E A nL own b d sb sc) {H : Heap} {locs : List Loc} {lsA : Array Slot} {σ : zM} {g k i ci j pc : Nat} {x : Int32} {rest : List Value} (hH : zHp E σ H) (hk : zkd k = (0, ci)) (hg : g < zNI k) (hz : zed k j = none) (hf : zfd own i = some (ci, j)) (hbl : zbl ci j = true → x = 0 ∨ x = 1) (hS0 : va_S A s.heap H locs) (hd : decode b pc = .ok (.putfield i, 3))
    (kk : ∀ (H1 : Heap) (locs1 : List Loc), zHp E (zwI σ g k j x) H1 → H1.size = H.size → va_S A s.heap H1 locs1 → W p l e R s m args below meth c H1 locs1 cells slots Q (F0 m (pc + 3) lsA rest)) : W p l e R s m args below meth c H locs cells slots Q (F0 m pc lsA (.int x :: .ref (E.1 g k) :: rest)) := by
  have hci := zkd_cls hk
  obtain ⟨hw, hj, -⟩ := zFok_all own _ (zfa_mem hf)
  have hj := hj hci
  obtain ⟨hfin, hty⟩ := zput_ok hk hj hz
  have hKK : va_K E.2.2.1 zCl [] s := ⟨hx.k.1, fun k q h => by simp at h⟩
  have hap := va_apart (own := "") (args := args) (fun w h => hx.wd h) (zlay_all hci) (zty ci) (zty_ok hci) (znm_ok hci) hKK (zCl_at hci)
  obtain ⟨hS, hfc, kC, hkC, hkind⟩ := hx.k.1 ci _ (zCl_at hci)
  obtain ⟨cf, kf, fi, f, hi, hsl⟩ := hS j hj
  obtain ⟨cell, q1, q2, q3, q4⟩ := hH.obj hk hg
  have hw : Cond.fieldLink (zcn own) i ((zTX ci) j).1 ((zTX ci) j).2.1 ((zTX ci) j).2.2.1 ∈ zGW := by
    have := zflw_lo (own := own) (i := i) (j := j) hci
    rw [← this]
    exact hw
  have hlay := hx.wd (zlay_all hci _ (u_in_lay hj))
  unfold u_lay at hlay
  rw [if_neg (by rw [hfin]; decide)] at hlay
  have hst := (u_facts (args := args) hfc hkC (u_lays (fun w h => hx.wd h) (zlay_all hci) hj) hi).1
  have hv : narrow (zty ci j) (.int x) = .int x ∧ fits (zty ci j) (.int x) = true := by
    rw [hty]
    by_cases hb : zbl ci j = true
    · rw [if_pos hb]
      rcases hbl hb with rfl | rfl <;> decide
    · rw [if_neg hb]
      exact ⟨rfl, rfl⟩
  have h6 := u_store hfc hkC hkind hlay hi (zty_ok hci j hj) hv.1 hv.2
  refine W.putK hx.1 hx.2.1 (f := f) ⟨hx.ow, hx.wd hw, ⟨_, _, _, hi⟩, hst⟩ (by rw [q2]; exact h6) q1 q3 (by rw [hsl]; exact k2_hasslot (q4 j hj)) rfl rfl hd fun H' e1 e2 e3 => ?_
  rw [hsl] at e1 ⊢
  refine kk H' _ (hH.upd hx.inj hg ?_ e3 (fun g' k' j' q => zwI_ne q) (fun g' k' j' _ => rfl)) e2 (hS0.put e2 e3 (hx.sub _ ⟨g, k, hg, rfl⟩))
  unfold zAt
  rw [hk]
  refine t_OB.to (V := updV (zFv E σ g k) j (.int x)) ⟨_, e1, q2, q3, t_set q4 hap hj _⟩ fun j' _ => ?_
  unfold updV zFv
  by_cases hjj : j' = j
  · subst hjj
    rw [if_pos rfl, hz]
    show _ = Value.int (if _ then x else _)
    rw [if_pos ⟨rfl, rfl, rfl⟩]
  · rw [if_neg hjj]
    split
    · show _ = Value.int (if _ then x else _)
      rw [if_neg fun z => hjj z.2.2]
    · rfl
    · rfl
theorem zm_iald (hx : zCx p R s m args c cells slots E A nL own b d sb sc) {H : Heap} {locs : List Loc} {lsA : Array Slot} {σ : zM} {g k n pc : Nat} {i : Int32} {rest : List Value} (hH : zHp E σ H) (hk : zkd k = (1, n)) (hg : g < zNI k) (hi : vp_in i n) (hd : decode b pc = .ok (.iaload, 1))
    (kk : W p l e R s m args below meth c H locs cells slots Q (F0 m (pc + 1) lsA (.int (σ.1 g k i.toNatClampNeg) :: rest))) : W p l e R s m args below meth c H locs cells slots Q (F0 m pc lsA (.int i :: .ref (E.1 g k) :: rest)) := by
  have hlt : i.toNatClampNeg < n := Nat.not_le.mp fun q => hi (Or.inr q)
  exact W.iald (v := .int (σ.1 g k i.toNatClampNeg)) hx.1 hx.2.1 (hH.arr1 hk hg) (hx.k.2.1 n (fun j => .int (σ.1 g k j))) (fun q => by cases q) (by show ¬ (i < 0 ∨ (arrV _ _ _).slots.size ≤ _); rw [arrV_size]; exact hi) (by rw [arrV_read _ _ hlt]) rfl rfl hd kk
theorem zm_lald (hx : zCx p R s m args c cells slots E A nL own b d sb sc) {H : Heap} {locs : List Loc} {lsA : Array Slot} {σ : zM} {g k n pc : Nat} {i : Int32} {rest : List Value} (hH : zHp E σ H) (hk : zkd k = (2, n)) (hg : g < zNI k) (hi : vp_in i n) (hd : decode b pc = .ok (.laload, 1))
    (kk : W p l e R s m args below meth c H locs cells slots Q (F0 m (pc + 1) lsA (.long (σ.2 g k i.toNatClampNeg) :: rest))) : W p l e R s m args below meth c H locs cells slots Q (F0 m pc lsA (.int i :: .ref (E.1 g k) :: rest)) := by
  have hlt : i.toNatClampNeg < n := Nat.not_le.mp fun q => hi (Or.inr q)
  exact W.lald (v := .long (σ.2 g k i.toNatClampNeg)) hx.1 hx.2.1 (hH.arr2 hk hg) (hx.k.2.2.1 n (fun j => .long (σ.2 g k j))) (fun q => by cases q) (by show ¬ (i < 0 ∨ (arrV _ _ _).slots.size ≤ _); rw [arrV_size]; exact hi) (by rw [arrV_read _ _ hlt]) rfl rfl hd kk
theorem zm_aald (hx : zCx p R s m args c cells slots E A nL own b d sb sc) {H : Heap} {locs : List Loc} {lsA : Array Slot} {σ : zM} {g k t n pc : Nat} {i : Int32} {rest : List Value} (hH : zHp E σ H) (hk : zkd k = (t, n)) (ht : t = 3 ∨ t = 4) (hg : g < zNI k) (hi : vp_in i n) (hd : decode b pc = .ok (.aaload, 1))
    (kk : W p l e R s m args below meth c H locs cells slots Q (F0 m (pc + 1) lsA (.ref (E.1 i.toNatClampNeg (k + 1)) :: rest))) : W p l e R s m args below meth c H locs cells slots Q (F0 m pc lsA (.int i :: .ref (E.1 g k) :: rest)) := by
  have hlt : i.toNatClampNeg < n := Nat.not_le.mp fun q => hi (Or.inr q)
  rcases ht with rfl | rfl
  · exact W.aald (v := .ref (E.1 i.toNatClampNeg (k + 1))) (ty := .array .int) hx.1 hx.2.1 (hH.arr3 hk hg) (hx.k.2.2.2.1 n (fun j => .ref (E.1 j (k + 1)))) rfl (fun q => by cases q) (by show ¬ (i < 0 ∨ (arrV _ _ _).slots.size ≤ _); rw [arrV_size]; exact hi) (by rw [arrV_read _ _ hlt]) rfl rfl hd kk
  · exact W.aald (v := .ref (E.1 i.toNatClampNeg (k + 1))) (ty := .array .long) hx.1 hx.2.1 (hH.arr4 hk hg) (hx.k.2.2.2.2.1 n (fun j => .ref (E.1 j (k + 1)))) rfl (fun q => by cases q) (by show ¬ (i < 0 ∨ (arrV _ _ _).slots.size ≤ _); rw [arrV_size]; exact hi) (by rw [arrV_read _ _ hlt]) rfl rfl hd kk
theorem zm_iast (hx : zCx p R s m args c cells slots E A nL own b d sb sc) {H : Heap} {locs : List Loc} {lsA : Array Slot} {σ : zM} {g k n pc : Nat} {i x : Int32} {rest : List Value} (hH : zHp E σ H) (hk : zkd k = (1, n)) (hg : g < zNI k) (hi : vp_in i n) (hS0 : va_S A s.heap H locs) (hd : decode b pc = .ok (.iastore, 1))
    (kk : ∀ (H1 : Heap) (locs1 : List Loc), zHp E (zwI σ g k i.toNatClampNeg x) H1 → H1.size = H.size → va_S A s.heap H1 locs1 → W p l e R s m args below meth c H1 locs1 cells slots Q (F0 m (pc + 1) lsA rest)) : W p l e R s m args below meth c H locs cells slots Q (F0 m pc lsA (.int x :: .int i :: .ref (E.1 g k) :: rest)) := by
  refine W.iast hx.1 hx.2.1 (hH.arr1 hk hg) (hx.k.2.1 n (fun j => .int (σ.1 g k j))) (fun q => by cases q) (by show ¬ (i < 0 ∨ (arrV _ _ _).slots.size ≤ _); rw [arrV_size]; exact hi) rfl rfl hd fun H1 e1 e2 e3 => ?_
  refine kk H1 _ (hH.upd hx.inj hg ?_ e3 (fun g' k' j' q => zwI_ne q) (fun g' k' j' _ => rfl)) e2 (hS0.put e2 e3 (hx.sub _ ⟨g, k, hg, rfl⟩))
  unfold zAt
  rw [hk]
  show H1[E.1 g k]? = _
  rw [e1, arrV_store]
  congr 2
  funext q
  unfold updV
  by_cases hq : q = i.toNatClampNeg
  · subst hq
    show _ = Value.int (if _ then x else _)
    rw [if_pos rfl, if_pos ⟨rfl, rfl, rfl⟩]
  · show _ = Value.int (if _ then x else _)
    rw [if_neg hq, if_neg fun z => hq z.2.2]
theorem zm_last (hx : zCx p R s m args c cells slots E A nL own b d sb sc) {H : Heap} {locs : List Loc} {lsA : Array Slot} {σ : zM} {g k n pc : Nat} {i : Int32} {x : Int64} {rest : List Value} (hH : zHp E σ H) (hk : zkd k = (2, n)) (hg : g < zNI k) (hi : vp_in i n) (hS0 : va_S A s.heap H locs) (hd : decode b pc = .ok (.lastore, 1))
    (kk : ∀ (H1 : Heap) (locs1 : List Loc), zHp E (zwL σ g k i.toNatClampNeg x) H1 → H1.size = H.size → va_S A s.heap H1 locs1 → W p l e R s m args below meth c H1 locs1 cells slots Q (F0 m (pc + 1) lsA rest)) : W p l e R s m args below meth c H locs cells slots Q (F0 m pc lsA (.long x :: .int i :: .ref (E.1 g k) :: rest)) := by
  refine W.last hx.1 hx.2.1 (hH.arr2 hk hg) (hx.k.2.2.1 n (fun j => .long (σ.2 g k j))) (fun q => by cases q) (by show ¬ (i < 0 ∨ (arrV _ _ _).slots.size ≤ _); rw [arrV_size]; exact hi) rfl rfl hd fun H1 e1 e2 e3 => ?_
  refine kk H1 _ (hH.upd hx.inj hg ?_ e3 (fun g' k' j' _ => rfl) (fun g' k' j' q => zwL_ne q)) e2 (hS0.put e2 e3 (hx.sub _ ⟨g, k, hg, rfl⟩))
  unfold zAt
  rw [hk]
  show H1[E.1 g k]? = _
  rw [e1, arrV_store]
  congr 2
  funext q
  unfold updV
  by_cases hq : q = i.toNatClampNeg
  · subst hq
    show _ = Value.long (if _ then x else _)
    rw [if_pos rfl, if_pos ⟨rfl, rfl, rfl⟩]
  · show _ = Value.long (if _ then x else _)
    rw [if_neg hq, if_neg fun z => hq z.2.2]
end ZMM
