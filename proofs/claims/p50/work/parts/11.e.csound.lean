def yv (z : Nat) : yW → Value
  | .inl x => .int x
  | .inr none => .null
  | .inr (some k) => .ref (z + k)
theorem yv_cat (z : Nat) (v : yW) : (yv z v).category = 1 := by
  rcases v with x | _ | k <;> rfl
def yAt (E : zEn) (z : Nat) (q : yC) (a : Nat) (H : Heap) : Prop := match q with
  | (0, ci, fs, _) => ci < 13 ∧ fs.length = zNF ci ∧ t_OB a (E.2.2.1.1 ci) (zNF ci) (E.2.2.1.2 ci) H (fun j => yv z (fs.getD j (.inl 0)))
  | (1, n, _, g) => H[a]? = some (arrV (E.2.1 1) n fun j => .int (g j))
  | (2, n, _, _) => H[a]? = some (arrV (E.2.1 2) n fun _ => .long 0)
  | (t + 3, n, fs, _) => H[a]? = some (arrV (E.2.1 (t + 3)) n fun j => yv z (fs.getD j (.inl 0)))
theorem yAt.kept {E : zEn} {z : Nat} {q : yC} {a : Nat} {H H' : Heap} (h : yAt E z q a H) (hq : H'[a]? = H[a]?) : yAt E z q a H' := by
  unfold yAt at h ⊢
  split at h
  · exact ⟨h.1, h.2.1, h.2.2.kept hq⟩
  · rw [hq]; exact h
  · rw [hq]; exact h
  · rw [hq]; exact h
def yRp (E : zEn) (z : Nat) (hs : List yC) (H : Heap) : Prop := H.size = z + hs.length ∧ ∀ (i : Nat) (q : yC), hs[i]? = some q → yAt E z q (z + i) H
theorem yRp.push {E : zEn} {z : Nat} {hs : List yC} {H H' : Heap} {q : yC} (h : yRp E z hs H) (hz : H'.size = H.size + 1) (ho : ∀ x, x < H.size → H'[x]? = H[x]?) (hq : yAt E z q (z + hs.length) H') : yRp E z (hs ++ [q]) H' := by
  obtain ⟨h1, h2⟩ := h
  refine ⟨by rw [hz, h1, List.length_append]; rfl, fun i x hx => ?_⟩
  rcases Nat.lt_or_ge i hs.length with hi | hi
  · rw [List.getElem?_append_left hi] at hx
    exact (h2 i x hx).kept (ho _ (by omega))
  · rw [List.getElem?_append_right hi] at hx
    have : i - hs.length = 0 := by
      have := (List.getElem?_eq_some_iff.mp hx).1
      simp at this
      omega
    rw [this] at hx
    cases hx
    rw [show i = hs.length by omega]
    exact hq
theorem yRp.set {E : zEn} {z : Nat} {hs : List yC} {H H' : Heap} {o : Nat} {q : yC} (h : yRp E z hs H) (hz : H'.size = H.size) (ho : ∀ x, x ≠ z + o → H'[x]? = H[x]?) (hq : yAt E z q (z + o) H') : yRp E z (hs.set o q) H' := by
  obtain ⟨h1, h2⟩ := h
  refine ⟨by rw [hz, h1, List.length_set], fun i x hx => ?_⟩
  rw [List.getElem?_set] at hx
  by_cases hi : o = i
  · subst hi
    rw [if_pos rfl] at hx
    split at hx
    · cases hx; exact hq
    · cases hx
  · rw [if_neg hi] at hx
    exact (h2 i x hx).kept (ho _ (by omega))
def yK (E : zEn) (U : State) : Prop := (∀ (c : Nat) (q : vw_C), zCl[c]? = some q → u_Kn U q.1 q.2.1 q.2.2 (E.2.2.1.1 c) (E.2.2.1.2 c)) ∧ (∀ t, t = 1 ∨ t = 2 → U.vm.findClass ("[" ++ (yty t).toString) = some (E.2.1 t) ∧ U.vm.findClass ("[" ++ (FieldType.array (yty t)).toString) = some (E.2.1 (t + 2)) ∧ va_Nw (.arrayOver (.array (yty t))) U) ∧ ∀ q ∈ yNest, va_Nw (.methodLinkNest q.1 q.2.1 q.2.2.1 q.2.2.2) U
theorem yAO_moved {t : FieldType} {u U : State} (hvm : u.vm.Alike U.vm) (h : va_Nw (.arrayOver (.array t)) u) : va_Nw (.arrayOver (.array t)) U := by
  have h1 : (Cond.arrayOver (.array t)).before #[] (u.setVm U.vm) = true := by rw [Cond.arrayOver_setVmC hvm]; exact h
  unfold va_Nw
  unfold Cond.before Cond.holds at h1 ⊢
  simp only [Cond.value] at h1 ⊢
  exact h1
theorem yK.moved {E : zEn} {u U : State} (hW : u.WarmedH U.vm) (h : yK E u) : yK E U := by
  obtain ⟨h1, h2, h3⟩ := h
  have hvm := hW.alike
  exact ⟨fun c q hq => u_Kn_moved hvm (h1 c q hq), fun t ht => ⟨by rw [hvm.findClass]; exact (h2 t ht).1, by rw [hvm.findClass]; exact (h2 t ht).2.1, yAO_moved hvm (h2 t ht).2.2⟩, fun q hq => (h3 q hq).warmM hW⟩
theorem yK.same {E : zEn} {u U : State} (hv : u.vm = U.vm) (h : yK E u) : yK E U := by
  obtain ⟨h1, h2, h3⟩ := h
  have hvm : u.vm.Alike U.vm := by rw [hv]; exact Vm.Alike.refl _
  exact ⟨fun c q hq => u_Kn_moved hvm (h1 c q hq), fun t ht => ⟨by rw [← hv]; exact (h2 t ht).1, by rw [← hv]; exact (h2 t ht).2.1, yAO_moved hvm (h2 t ht).2.2⟩, fun q hq => (h3 q hq).same rfl hv⟩
def yPc (E : zEn) (z this : Nat) (hs : List yC) : Array Value → State → Prop := fun v U => v = #[.ref (z + this)] ∧ yRp E z hs U.heap ∧ yK E U
def yQc (E : zEn) (z : Nat) (hs : List yC) : Array Value → State → Outcome → State → Prop := fun _ st oc t => oc = .returned none ∧ yRp E z hs t.heap ∧ st.heap.size ≤ t.heap.size ∧ ∀ q : Nat, q < z → t.heap[q]? = st.heap[q]?
def yRm (d j : Nat) : Room := { frames := d, cells := (yLim j).1, slots := (yLim j).2, locals := 60 * d }
def yMt (l : Launch) (E : zEn) (z d j this : Nat) (hs hs' : List yC) : Prop :=
  Met l (yY j).1 (Cond.code (yY j).1 (yY j).2.1 (yY j).2.2 none :: zGW) (yRm d j) (yPc E z this hs) (yQc E z hs') (yLim j).1 (yLim j).2 (fun q => z ≤ q)
theorem yPc_blind (E : zEn) (z this : Nat) (hs : List yC) : FrameBlind (yPc E z this hs) := by
  intro a U g mk h
  obtain ⟨h1, h2, h3⟩ := h
  exact ⟨h1, h2, h3.same (u := U) (U := U.calling g mk a) rfl⟩
theorem ycb_some {α : Type} {b : Bool} {x : Option α} {r : α} (h : ycb b x = some r) : b = true ∧ x = some r := by
  cases b
  · cases h
  · exact ⟨rfl, h⟩
def yls (z this : Nat) : Option Int32 → List (Nat × Value)
  | none => [(0, .ref (z + this))]
  | some x => [(0, .ref (z + this)), (1, .int x)]
theorem yas_mem : ∀ {l : List yE} {i : Nat} {e}, yas l i = some e → (i, e) ∈ l
  | [], _, _, h => by cases h
  | (p, e0) :: r, i, e, h => by
    have h : (bif Nat.beq p i then some e0 else yas r i) = some e := h
    cases q : Nat.beq p i with
    | true =>
      rw [q] at h
      cases h
      rw [Nat.eq_of_beq_eq_true q]
      exact List.mem_cons_self
    | false =>
      rw [q] at h
      exact List.mem_cons_of_mem _ (yas_mem h)
theorem yf3 {α : Type} {l : List (Nat × Nat × α)} {j i : Nat} {q} (h : l.find? (fun q => Nat.beq q.1 j && Nat.beq q.2.1 i) = some q) : (j, i, q.2.2) ∈ l := by
  have h1 := List.find?_some h
  have h2 := List.mem_of_find?_eq_some h
  simp only [Bool.and_eq_true] at h1
  obtain ⟨a, b, c⟩ := q
  have e1 := Nat.eq_of_beq_eq_true h1.1
  have e2 := Nat.eq_of_beq_eq_true h1.2
  dsimp only at e1 e2 h2 ⊢
  rw [← e1, ← e2]
  exact h2
section YS
variable {p : Program} {l : Launch} {e : Env} {R : Room} {s : State} {m : MethodId} {args : Array Value} {below : List Frame} {meth : Method} {c : Code} {Q : State → Prop} {E : zEn} {z nL d j this : Nat} {b : ByteArray} {C : Nat → Nat → List yC → Option (List yC)} {K : yKt} {r : List yC}
def yX (p : Program) (l : Launch) (e : Env) (R : Room) (s : State) (m : MethodId) (args : Array Value) (below : List Frame) (meth : Method) (c : Code) (Q : State → Prop) (E : zEn) (z nL this : Nat) : Nat → Option Int32 → List yW → List yC → Nat → Nat → Prop := fun pc l1 st hs cs ss =>
  ∀ (H : Heap) (locs : List Loc) (lsA : Array Slot), yRp E z hs H → va_S (fun q => z ≤ q) s.heap H locs → lv_has lsA nL (yls z this l1) → W p l e R s m args below meth c H locs cs ss Q (F0 m pc lsA (st.map (yv z)))
def yIH (p : Program) (l : Launch) (e : Env) (R : Room) (s : State) (m : MethodId) (args : Array Value) (below : List Frame) (meth : Method) (c : Code) (Q : State → Prop) (E : zEn) (z nL this : Nat) (K : yKt) (r : List yC) : Prop := ∀ pc l1 st hs cs ss, K pc l1 st hs cs ss = some r → yX p l e R s m args below meth c Q E z nL this pc l1 st hs cs ss
def yFin (p : Program) (l : Launch) (e : Env) (R : Room) (s : State) (m : MethodId) (args : Array Value) (below : List Frame) (meth : Method) (c : Code) (Q : State → Prop) (E : zEn) (z j : Nat) (b : ByteArray) (r : List yC) : Prop :=
  ∀ (pc : Nat) (H : Heap) (locs : List Loc) (lsA : Array Slot), yRp E z r H → va_S (fun q => z ≤ q) s.heap H locs → decode b pc = .ok (.return_, 1) → W p l e R s m args below meth c H locs (yLim j).1 (yLim j).2 Q (F0 m pc lsA [])
def yCx (p : Program) (R : Room) (s : State) (m : MethodId) (args : Array Value) (meth : Method) (c : Code) (E : zEn) (z nL d j : Nat) (b : ByteArray) : Prop :=
  p.tables.exec = Jvm.exec ∧ c.code = b ∧ c.maxLocals = nL ∧ s.vm.findClass (zcn j) = some m.cls ∧ (∀ w ∈ zGW, w.before args s = true) ∧ yK E s ∧ meth.name = "<init>" ∧ (d + 1 ≤ R.frames ∧ 60 * d + 60 ≤ R.locals ∧ (yLim j).1 ≤ R.cells ∧ (yLim j).2 ≤ R.slots) ∧ z ≤ s.heap.size
def yCok (l : Launch) (E : zEn) (z d : Nat) (C : Nat → Nat → List yC → Option (List yC)) : Prop := ∀ j2 o hs hs2, j2 < 13 → C j2 o hs = some hs2 → yMt l E z d j2 o hs hs2
theorem va_S.grow {A : Nat → Prop} {H0 H H1 : Heap} {locs : List Loc} (h : va_S A H0 H locs) (hz : H.size ≤ H1.size) (ho : ∀ x, x < H.size → H1[x]? = H[x]?) : va_S A H0 H1 locs :=
  ⟨Nat.le_trans h.1 hz, fun q h1 h2 => (ho q (Nat.lt_of_lt_of_le h1 h.1)).trans (h.2.1 q h1 h2), h.2.2⟩
theorem ys_newarr (hx : yCx p R s m args meth c E z nL d j b) (ih : yIH p l e R s m args below meth c Q E z nL this K r) {pc : Nat} {l1 st hs cs ss} (hd : decode b pc = .ok (.newarray .int, 2)) {n : Int32} (hn : 0 ≤ n) (hb1 : n.toNatClampNeg ≤ 1000) (hb2 : cs + 1 ≤ (yLim j).1) (hb3 : ss + n.toNatClampNeg ≤ (yLim j).2)
    (h : K (pc + 2) l1 (.inr (some hs.length) :: st) (hs ++ [yAR n.toNatClampNeg]) (cs + 1) (ss + n.toNatClampNeg) = some r) : yX p l e R s m args below meth c Q E z nL this pc l1 (.inl n :: st) hs cs ss := by
  intro H locs lsA hH hS hL
  have hR := hx.2.2.2.2.2.2.2.1
  have hK := hx.2.2.2.2.2.1
  refine va_newaK (atype := .int) (h := z + hs.length) hx.1 hx.2.1 (hx.2.2.2.2.1 _ yw_arr.1) rfl hd rfl (Int32.not_lt.mpr hn) rfl ?_ (by omega) (by omega) hH.1 fun H1 cA e1 z1 o1 _ hNm => ?_
  · show n.toNatClampNeg * 4 ≤ _
    omega
  · have hcA : cA = E.2.1 1 := Option.some.inj (hNm.symm.trans (hK.2.1 1 (Or.inl rfl)).1)
    subst hcA
    have ho : ∀ x, x < H.size → H1[x]? = H[x]? := fun x q => o1 x (by rw [← hH.1]; exact q)
    have z1' : H1.size = H.size + 1 := by rw [z1, hH.1]
    exact ih _ _ _ _ _ _ h H1 locs lsA (hH.push z1' ho e1) (hS.grow (by omega) ho) hL
theorem yborn {z ci o : Nat} {H : Heap} (hci : ci < 13) (hb : t_OB o (E.2.2.1.1 ci) (zNF ci) (E.2.2.1.2 ci) H (fun k => defaultValue (zty ci k))) : yAt E z (yOB ci) o H := by
  refine ⟨hci, by simp [ydf], t_OB.to hb fun k hk => ?_⟩
  have e2 : (ydf ci).getD k (.inl 0) = (match zty ci k with | .int => .inl 0 | .boolean => .inl 0 | _ => .inr none) := by
    unfold ydf
    rw [List.getD_eq_getElem?_getD, List.getElem?_map, List.getElem?_range hk]
    rfl
  have hall : ∀ ci, ci < 13 → ∀ k, k < zNF ci → (zty ci k = .int ∨ zty ci k = .boolean ∨ defaultValue (zty ci k) = .null ∧ (match zty ci k with | .int => (.inl 0 : yW) | .boolean => .inl 0 | _ => .inr none) = .inr none) := by
    intro ci hci k hk
    have : ∀ ci, ci < 13 → ∀ k, k < zNF ci → (zty ci k = .int ∨ zty ci k = .boolean ∨ defaultValue (zty ci k) = .null ∧ (match zty ci k with | .int => (.inl 0 : yW) | .boolean => .inl 0 | _ => .inr none) = .inr none) := by decide +kernel
    exact this ci hci k hk
  rw [e2]
  rcases hall ci hci k hk with q | q | ⟨q1, q2⟩
  · rw [q]; rfl
  · rw [q]; rfl
  · rw [q1, q2]; rfl
theorem ys_new (hx : yCx p R s m args meth c E z nL d j b) (ih : yIH p l e R s m args below meth c Q E z nL this K r) {pc i ci : Nat} {l1 st hs cs ss} (hd : decode b pc = .ok (.new i, 3)) (hq : (j, i, ci) ∈ yNW) (hb2 : cs + 1 ≤ (yLim j).1) (hb3 : ss + zNF ci ≤ (yLim j).2)
    (h : K (pc + 3) l1 (.inr (some hs.length) :: st) (hs ++ [yOB ci]) (cs + 1) (ss + zNF ci) = some r) : yX p l e R s m args below meth c Q E z nL this pc l1 st hs cs ss := by
  intro H locs lsA hH hS hL
  have hR := hx.2.2.2.2.2.2.2.1
  have hK := hx.2.2.2.2.2.1
  obtain ⟨w1, w2, w3, hci⟩ := yNW_ok _ hq
  have hKn := hK.1 ci _ (zCl_at hci)
  have hts := hx.2.2.2.2.1
  refine W.newcK (n := zNF ci) (C := zcn ci) (h := z + hs.length) hx.1 hx.2.1 hx.2.2.2.1 (hts _ w1) (hts _ w2) (hts _ w3) rfl hd (by omega) (by omega) hKn.2.1 hH.1 fun H1 kC hkC e1 z1 o1 => ?_
  have ho : ∀ x, x < H.size → H1[x]? = H[x]? := fun x q => o1 x (by rw [← hH.1]; exact q)
  have z1' : H1.size = H.size + 1 := by rw [z1, hH.1]
  refine ih _ _ _ _ _ _ h H1 locs lsA (hH.push z1' ho ?_) (hS.grow (by omega) ho) hL
  have hb := u_born (zty ci) hts (zlay_all hci) hKn hkC e1 (zty_ok hci)
  exact yborn hci hb
theorem ys_objInit (hx : yCx p R s m args meth c E z nL d j b) (ih : yIH p l e R s m args below meth c Q E z nL this K r) {pc i o : Nat} {l1 st hs cs ss} (hd : decode b pc = .ok (.invokespecial i, 3)) (hq : (j, i, none) ∈ yCL) (hsz : st.length ≤ 8)
    (h : K (pc + 3) l1 st hs cs ss = some r) : yX p l e R s m args below meth c Q E z nL this pc l1 (.inr (some o) :: st) hs cs ss := by
  intro H locs lsA hH hS hL
  have hR := hx.2.2.2.2.2.2.2.1
  have hts := hx.2.2.2.2.1
  have hw := (yCL_ok _ hq).1 rfl
  have hcat : ((st.map (yv z)).map fun v => v.category).sum = st.length := by
    rw [List.map_map]
    have : ((fun v : Value => v.category) ∘ yv z) = fun _ => 1 := funext fun v => yv_cat z v
    rw [this]
    clear h hsz
    induction st with
    | nil => rfl
    | cons a st ih => simp only [List.map_cons, List.sum_cons, ih, List.length_cons]; omega
  refine W.objInit hx.1 hx.2.1 hx.2.2.2.1 (hts _ hw) (hts _ yw_obj.1) (hts _ yw_obj.2) rfl (hL.1.trans hx.2.2.1.symm) rfl hd (by omega) ?_ (ih _ _ _ _ _ _ h H locs lsA hH hS hL)
  show 2 * 0 + _ + 12 ≤ _
  rw [hcat]
  omega
end YS
