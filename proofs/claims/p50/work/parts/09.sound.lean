def zX (p : Program) (l : Launch) (e : Env) (R : Room) (s : State) (m : MethodId) (args : Array Value) (below : List Frame) (meth : Method) (c : Code) (cells slots : Nat) (Q : State → Prop) (E : zEn) (A : Nat → Prop) (N nL : Nat) (sb : Bool) (sc : zM → Prop) : Nat → zL → List zV → zM → Prop := fun pc ls st σ =>
  ∀ (H : Heap) (locs : List Loc) (lsA : Array Slot), zHp E σ H → sc σ → H.size = N → va_S A s.heap H locs → lv_has lsA nL (zls E 0 ls) → (∀ v, some v ∈ ls → zokv sb v) → (∀ v ∈ st, zokv sb v) → W p l e R s m args below meth c H locs cells slots Q (F0 m pc lsA (st.map (zvv E)))
def zCx (p : Program) (R : Room) (s : State) (m : MethodId) (args : Array Value) (c : Code) (cells slots : Nat) (E : zEn) (A : Nat → Prop) (nL own : Nat) (b : ByteArray) (d : Nat) (sb : Bool) (sc : zM → Prop) : Prop :=
  p.tables.exec = Jvm.exec ∧ c.code = b ∧ c.maxLocals = nL ∧ s.vm.findClass (zcn own) = some m.cls ∧ (∀ w ∈ zGW, w.before args s = true) ∧ zK E s ∧ zTx E A s s.heap ∧ zIj E ∧ (∀ q, zA E q → A q) ∧ (d + 1 ≤ R.frames ∧ 60 * d + 60 ≤ R.locals ∧ cells ≤ R.cells ∧ slots ≤ R.slots) ∧
  (∀ σ, sc σ → sb = true → ∃ (L : Nat) (xs : Nat → Int32), L < 2 ^ 31 ∧ va_X (E.1 0 90) L xs s s.heap ∧ E.1 0 90 < s.heap.size ∧ ¬ A (E.1 0 90) ∧ σ.1 0 91 0 = nI L ∧ ∀ j, j < L → σ.1 0 90 j = xs j)
def zSC (sc : zM → Prop) : Prop := (∀ σ g k i v, (zkd k).1 ≤ 2 → sc σ → sc (zwI σ g k i v)) ∧ (∀ σ g k i v, (zkd k).1 ≤ 2 → sc σ → sc (zwL σ g k i v)) ∧ ∀ σ g k sp g2 k2 dp n, (zkd k2).1 ≤ 2 → sc σ → sc (zcop σ g k sp g2 k2 dp n)
theorem zcb_some {b : Bool} {x : zR} {r} (h : zcb b x none = some r) : b = true ∧ x = some r := by
  cases b
  · cases h
  · exact ⟨rfl, h⟩
theorem zcb_none {b : Bool} {x : zR} {r} (h : zcb b none x = some r) : b = false ∧ x = some r := by
  cases b
  · exact ⟨rfl, h⟩
  · cases h
theorem zin_spec {x : Int32} {n : Nat} (h : zin x n = true) : vp_in x n := by
  simp only [zin, Bool.and_eq_true, decide_eq_true_eq] at h
  have h2 := Nat.blt_eq.mp h.2
  intro q
  rcases q with q | q
  · exact absurd h.1 (Int32.not_le.mpr q)
  · omega
theorem z01_spec {x : Int32} (h : z01 x = true) : x = 0 ∨ x = 1 := by
  simpa [z01] using h
theorem zHp.arr1 {E : zEn} {σ : zM} {H : Heap} (h : zHp E σ H) {g k n : Nat} (hk : zkd k = (1, n)) (hg : g < zNI k) : H[E.1 g k]? = some (arrV (E.2.1 1) n fun j => .int (σ.1 g k j)) := by
  have := h g k hg
  unfold zAt at this
  rw [hk] at this
  exact this
theorem zHp.arr2 {E : zEn} {σ : zM} {H : Heap} (h : zHp E σ H) {g k n : Nat} (hk : zkd k = (2, n)) (hg : g < zNI k) : H[E.1 g k]? = some (arrV (E.2.1 2) n fun j => .long (σ.2 g k j)) := by
  have := h g k hg
  unfold zAt at this
  rw [hk] at this
  exact this
theorem zHp.arr3 {E : zEn} {σ : zM} {H : Heap} (h : zHp E σ H) {g k n : Nat} (hk : zkd k = (3, n)) (hg : g < zNI k) : H[E.1 g k]? = some (arrV (E.2.1 3) n fun j => .ref (E.1 j (k + 1))) := by
  have := h g k hg
  unfold zAt at this
  rw [hk] at this
  exact this
theorem zHp.arr4 {E : zEn} {σ : zM} {H : Heap} (h : zHp E σ H) {g k n : Nat} (hk : zkd k = (4, n)) (hg : g < zNI k) : H[E.1 g k]? = some (arrV (E.2.1 4) n fun j => .ref (E.1 j (k + 1))) := by
  have := h g k hg
  unfold zAt at this
  rw [hk] at this
  exact this
theorem zHp.obj {E : zEn} {σ : zM} {H : Heap} (h : zHp E σ H) {g k ci : Nat} (hk : zkd k = (0, ci)) (hg : g < zNI k) : t_OB (E.1 g k) (E.2.2.1.1 ci) (zNF ci) (E.2.2.1.2 ci) H (zFv E σ g k) := by
  have := h g k hg
  unfold zAt at this
  rw [hk] at this
  exact this
theorem zAt.kept {E : zEn} {σ σ' : zM} {g k : Nat} {H H' : Heap} (h : zAt E σ g k H) (hq : H'[E.1 g k]? = H[E.1 g k]?) (h1 : ∀ j, σ'.1 g k j = σ.1 g k j) (h2 : ∀ j, σ'.2 g k j = σ.2 g k j) : zAt E σ' g k H' := by
  unfold zAt at h ⊢
  split at h
  · refine (h.kept hq).to fun j _ => ?_
    unfold zFv
    split <;> simp [h1]
  · rw [hq, h]
    simp only [h1]
  · rw [hq, h]
    simp only [h2]
  · rw [hq]; exact h
  · rw [hq]; exact h
  · trivial
theorem zHp.upd {E : zEn} {σ σ' : zM} {g k : Nat} {H H' : Heap} (h : zHp E σ H) (hI : zIj E) (hg : g < zNI k) (hc : zAt E σ' g k H') (ho : ∀ q, q ≠ E.1 g k → H'[q]? = H[q]?) (h1 : ∀ g' k' j, ¬ (g' = g ∧ k' = k) → σ'.1 g' k' j = σ.1 g' k' j) (h2 : ∀ g' k' j, ¬ (g' = g ∧ k' = k) → σ'.2 g' k' j = σ.2 g' k' j) : zHp E σ' H' := by
  intro g' k' hg'
  by_cases e : g' = g ∧ k' = k
  · obtain ⟨rfl, rfl⟩ := e
    exact hc
  · exact (h g' k' hg').kept (ho _ fun z => e (hI g' k' g k hg' hg z)) (fun j => h1 g' k' j e) (fun j => h2 g' k' j e)
theorem zwI_ne {σ : zM} {g k i : Nat} {v : Int32} {g' k' j : Nat} (h : ¬ (g' = g ∧ k' = k)) : (zwI σ g k i v).1 g' k' j = σ.1 g' k' j := if_neg fun z => h ⟨z.1, z.2.1⟩
theorem zwL_ne {σ : zM} {g k i : Nat} {v : Int64} {g' k' j : Nat} (h : ¬ (g' = g ∧ k' = k)) : (zwL σ g k i v).2 g' k' j = σ.2 g' k' j := if_neg fun z => h ⟨z.1, z.2.1⟩
theorem zok_obj {sb : Bool} {g k : Nat} {t n : Nat} (h : zokv sb (.inr (.inr (g, k)))) (hk : zkd k = (t, n)) (ht : t < 5) : g < zNI k := by
  unfold zokv at h
  simp only [hk] at h
  have : t = 0 ∨ t = 1 ∨ t = 2 ∨ t = 3 ∨ t = 4 := by omega
  rcases this with rfl | rfl | rfl | rfl | rfl <;> exact h
theorem zok_ref {sb : Bool} {g k : Nat} {t n : Nat} (hk : zkd k = (t, n)) (ht : t < 5) (h : g < zNI k) : zokv sb (.inr (.inr (g, k))) := by
  unfold zokv
  simp only [hk]
  have : t = 0 ∨ t = 1 ∨ t = 2 ∨ t = 3 ∨ t = 4 := by omega
  rcases this with rfl | rfl | rfl | rfl | rfl <;> exact h
theorem zkd_ne99 {k t n : Nat} (hk : zkd k = (t, n)) (ht : t < 9) : Nat.beq k 99 = false := by
  cases e : Nat.beq k 99 with
  | false => rfl
  | true =>
    have := Nat.eq_of_beq_eq_true e
    subst this
    have h9 : zkd 99 = (9, 0) := by decide +kernel
    rw [h9] at hk
    cases hk
    omega
theorem zvv_ref {E : zEn} {g k : Nat} (h : Nat.beq k 99 = false) : zvv E (.inr (.inr (g, k))) = .ref (E.1 g k) := by
  show (bif Nat.beq k 99 then E.2.2.2 else Value.ref (E.1 g k)) = _
  rw [h]; rfl
theorem zfa_mem : ∀ {l : List (Nat × Nat × Nat)} {i : Nat} {e}, zfa l i = some e → (i, e) ∈ l
  | [], _, _, h => by cases h
  | (p, e0) :: r, i, e, h => by
    have h : (bif Nat.beq p i then some e0 else zfa r i) = some e := h
    cases q : Nat.beq p i with
    | true =>
      rw [q] at h
      cases h
      rw [Nat.eq_of_beq_eq_true q]
      exact List.mem_cons_self
    | false =>
      rw [q] at h
      exact List.mem_cons_of_mem _ (zfa_mem h)
theorem zma_mem : ∀ {l : List (Nat × Nat × Nat × Nat)} {i : Nat} {e}, zma l i = some e → (i, e) ∈ l
  | [], _, _, h => by cases h
  | (p, e0) :: r, i, e, h => by
    have h : (bif Nat.beq p i then some e0 else zma r i) = some e := h
    cases q : Nat.beq p i with
    | true =>
      rw [q] at h
      cases h
      rw [Nat.eq_of_beq_eq_true q]
      exact List.mem_cons_self
    | false =>
      rw [q] at h
      exact List.mem_cons_of_mem _ (zma_mem h)
theorem zas_mem : ∀ {l : List (Nat × zE)} {i : Nat} {e}, zas l i = some e → (i, e) ∈ l
  | [], _, _, h => by cases h
  | (p, e0) :: r, i, e, h => by
    have h : (bif Nat.beq p i then some e0 else zas r i) = some e := h
    cases q : Nat.beq p i with
    | true =>
      rw [q] at h
      cases h
      rw [Nat.eq_of_beq_eq_true q]
      exact List.mem_cons_self
    | false =>
      rw [q] at h
      exact List.mem_cons_of_mem _ (zas_mem h)
theorem zmk_sub : ∀ {m : List Bool} {l : zL} {v}, some v ∈ zmk m l → some v ∈ l
  | [], _, _, h => h
  | _ :: _, [], _, h => by cases h
  | b :: m, w :: l, v, h => by
    rcases List.mem_cons.mp h with h | h
    · cases b
      · cases h
      · rw [h]; exact List.mem_cons_self
    · exact List.mem_cons_of_mem _ (zmk_sub h)
theorem zls_mk {E : zEn} : ∀ {m : List Bool} {l : zL} {b : Nat} {q}, q ∈ zls E b (zmk m l) → q ∈ zls E b l
  | [], _, _, _, h => h
  | _ :: _, [], _, _, h => by cases h
  | t :: m, w :: l, b, q, h => by
    cases t
    · cases w with
      | none => exact zls_mk (m := m) (l := l) h
      | some w => exact List.mem_cons_of_mem _ (zls_mk (m := m) (l := l) h)
    · cases w with
      | none => exact zls_mk (m := m) (l := l) h
      | some w =>
        rcases List.mem_cons.mp h with h | h
        · rw [h]; exact List.mem_cons_self
        · exact List.mem_cons_of_mem _ (zls_mk (m := m) (l := l) h)
theorem zls_cut {E : zEn} : ∀ {l : zL} {b n : Nat} {q}, q ∈ zls E b (zcut l n) → q ∈ zls E b l
  | [], _, n, _, h => by cases n <;> cases h
  | none :: l, b, 0, q, h => h
  | some w :: l, b, 0, q, h => List.mem_cons_of_mem _ h
  | none :: l, b, n + 1, q, h => zls_cut (l := l) (b := b + 1) h
  | some w :: l, b, n + 1, q, h => by
    rcases List.mem_cons.mp h with h | h
    · rw [h]; exact List.mem_cons_self
    · exact List.mem_cons_of_mem _ (zls_cut (l := l) h)
theorem zput_mem : ∀ {l : zL} {n : Nat} {v w}, some w ∈ zput l n v → some w ∈ l ∨ w = v
  | [], n, _, _, h => by cases n with
    | zero => cases h
    | succ n => cases n <;> cases h
  | a :: l, 0, v, w, h => by
    rcases List.mem_cons.mp h with h | h
    · cases h; exact Or.inr rfl
    · exact Or.inl (List.mem_cons_of_mem _ h)
  | a :: l, 1, v, w, h => by
    rcases List.mem_cons.mp h with h | h
    · left
      split at h
      · cases h
      · rw [h]; exact List.mem_cons_self
    · rcases zput_mem h with h | h
      · exact Or.inl (List.mem_cons_of_mem _ h)
      · exact Or.inr h
  | a :: l, n + 2, v, w, h => by
    rcases List.mem_cons.mp h with h | h
    · rw [h]; exact Or.inl List.mem_cons_self
    · rcases zput_mem h with h | h
      · exact Or.inl (List.mem_cons_of_mem _ h)
      · exact Or.inr h
theorem zcut_mem : ∀ {l : zL} {n : Nat} {w}, some w ∈ zcut l n → some w ∈ l
  | [], n, _, h => by cases n <;> cases h
  | a :: l, 0, w, h => by
    rcases List.mem_cons.mp h with h | h
    · cases h
    · exact List.mem_cons_of_mem _ h
  | a :: l, n + 1, w, h => by
    rcases List.mem_cons.mp h with h | h
    · rw [h]; exact List.mem_cons_self
    · exact List.mem_cons_of_mem _ (zcut_mem h)
theorem zget_mem : ∀ {l : zL} {n : Nat} {v}, zget l n = some v → some v ∈ l
  | [], _, _, h => by cases h
  | a :: l, 0, v, h => by
    have h : a = some v := h
    rw [h]; exact List.mem_cons_self
  | a :: l, n + 1, v, h => List.mem_cons_of_mem _ (zget_mem (l := l) h)
theorem lv_less {ls : Array Slot} {nL : Nat} {l l' : List (Nat × Value)} (h : lv_has ls nL l) (hs : ∀ q, q ∈ l' → q ∈ l) : lv_has ls nL l' := ⟨h.1, h.2.1, fun q hq => h.2.2 q (hs q hq)⟩
theorem zlv_get {E : zEn} {lsA : Array Slot} {nL : Nat} {ls : zL} (h : lv_has lsA nL (zls E 0 ls)) {i : Nat} {v : zV} (hv : zget ls i = some v) : lsA[i]? = some (.val (zvv E v)) := by
  have := h.2.2 _ (zls_get (E := E) (b := 0) hv)
  simpa using this
theorem zlv_put {E : zEn} (hE : E.2.2.2.category = 1) {lsA : Array Slot} {nL : Nat} {ls : zL} {i : Nat} {v : zV} {w : Value} (hw : w = zvv E v) (h : lv_has lsA nL ((i, w) :: (zls E 0 ls).filter (fun q => !(q.1 == i) && !(q.1 + 1 == i && q.2.category == 2)))) : lv_has lsA nL (zls E 0 (zput ls i v)) := by
  refine lv_less h fun q hq => ?_
  rcases zls_put hE hq with h | ⟨h1, h2, h3⟩
  · rw [h, Nat.zero_add, hw]; exact List.mem_cons_self
  · refine List.mem_cons_of_mem _ (List.mem_filter.mpr ⟨h1, ?_⟩)
    rw [Nat.zero_add] at h2 h3
    simp only [Bool.and_eq_true, Bool.not_eq_true', beq_eq_false_iff_ne, ne_eq, Bool.and_eq_false_iff]
    refine ⟨h2, ?_⟩
    by_cases e : q.1 + 1 = i
    · exact Or.inr fun z => h3 ⟨e, z⟩
    · exact Or.inl e
theorem zls_cut_ne {E : zEn} : ∀ {l : zL} {b n : Nat} {q}, q ∈ zls E b (zcut l n) → ¬ q.1 = b + n
  | [], _, n, _, h => by cases n <;> cases h
  | none :: l, b, 0, q, h => fun z => by have := zls_ge (ls := l) h; omega
  | some w :: l, b, 0, q, h => fun z => by have := zls_ge (ls := l) h; omega
  | none :: l, b, n + 1, q, h => fun z => zls_cut_ne (l := l) (b := b + 1) h (by omega)
  | some w :: l, b, n + 1, q, h => by
    rcases List.mem_cons.mp h with h | h
    · rw [h]; exact fun z => by simp only [] at z; omega
    · exact fun z => zls_cut_ne (l := l) h (by omega)
theorem zSD_ok {own i j : Nat} (h : zsd own i = some j) : ∃ q ∈ zSI, zcn own = RX10 ∧ i = q.1 ∧ q.2.2 = j ∧ j < 18 := by
  unfold zsd at h
  cases hf : zfa (zSD.getD own []) i with
  | none => rw [hf] at h; cases h
  | some v =>
    rw [hf] at h
    obtain ⟨j', x⟩ := v
    cases h
    have hm := zfa_mem hf
    have hall : ∀ o, o < 19 → ∀ q ∈ zSD.getD o [], ∃ w ∈ zSI, zcn o = RX10 ∧ q.1 = w.1 ∧ w.2.2 = q.2.1 ∧ q.2.1 < 18 := by decide +kernel
    rcases Nat.lt_or_ge own 19 with ho | ho
    · exact hall own ho _ hm
    · obtain ⟨k, rfl⟩ : ∃ k, own = k + 19 := ⟨own - 19, by omega⟩
      exact absurd hm List.not_mem_nil
