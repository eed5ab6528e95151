abbrev zEn : Type := (Nat → Nat → Nat) × (Nat → ClassId) × va_G × Value
def zvv (E : zEn) : zV → Value
  | .inl x => .int x
  | .inr (.inl x) => .long x
  | .inr (.inr (g, k)) => bif Nat.beq k 99 then E.2.2.2 else .ref (E.1 g k)
def zFv (E : zEn) (σ : zM) (g k j : Nat) : Value := match zed k j with
  | none => .int (σ.1 g k j)
  | some (none, k2) => .ref (E.1 g k2)
  | some (some g2, k2) => .ref (E.1 g2 k2)
def zAt (E : zEn) (σ : zM) (g k : Nat) (H : Heap) : Prop := match zkd k with
  | (0, ci) => t_OB (E.1 g k) (E.2.2.1.1 ci) (zNF ci) (E.2.2.1.2 ci) H (zFv E σ g k)
  | (1, n) => H[E.1 g k]? = some (arrV (E.2.1 1) n fun j => .int (σ.1 g k j))
  | (2, n) => H[E.1 g k]? = some (arrV (E.2.1 2) n fun j => .long (σ.2 g k j))
  | (3, n) => H[E.1 g k]? = some (arrV (E.2.1 3) n fun j => .ref (E.1 j (k + 1)))
  | (4, n) => H[E.1 g k]? = some (arrV (E.2.1 4) n fun j => .ref (E.1 j (k + 1)))
  | _ => True
def zA (E : zEn) : Nat → Prop := fun q => ∃ g k, g < zNI k ∧ q = E.1 g k
def zHp (E : zEn) (σ : zM) (H : Heap) : Prop := ∀ g k, g < zNI k → zAt E σ g k H
def zIj (E : zEn) : Prop := ∀ g k g' k', g < zNI k → g' < zNI k' → E.1 g k = E.1 g' k' → g = g' ∧ k = k'
def zK (E : zEn) (U : State) : Prop := (∀ (c : Nat) (q : vw_C), zCl[c]? = some q → u_Kn U q.1 q.2.1 q.2.2 (E.2.2.1.1 c) (E.2.2.1.2 c)) ∧ ArrOfT U (E.2.1 1) .int ∧ ArrOfT U (E.2.1 2) .long ∧ ArrOfT U (E.2.1 3) (.array .int) ∧ ArrOfT U (E.2.1 4) (.array .long) ∧ ∀ q ∈ zNest, va_Nw (.methodLinkNest q.1 q.2.1 q.2.2.1 q.2.2.2) U
theorem zK.moved {E : zEn} {u U : State} (hW : u.WarmedH U.vm) (h : zK E u) : zK E U := by
  obtain ⟨h1, h2, h3, h4, h5, h6⟩ := h
  have hvm := hW.alike
  exact ⟨fun c q hq => u_Kn_moved hvm (h1 c q hq), arrOfT_moved hvm h2, arrOfT_moved hvm h3, arrOfT_moved hvm h4, arrOfT_moved hvm h5, fun q hq => (h6 q hq).warmM hW⟩
theorem zK.same {E : zEn} {u U : State} (hv : u.vm = U.vm) (h : zK E u) : zK E U := by
  obtain ⟨h1, h2, h3, h4, h5, h6⟩ := h
  have hvm : u.vm.Alike U.vm := by rw [hv]; exact Vm.Alike.refl _
  exact ⟨fun c q hq => u_Kn_moved hvm (h1 c q hq), arrOfT_moved hvm h2, arrOfT_moved hvm h3, arrOfT_moved hvm h4, arrOfT_moved hvm h5, fun q hq => (h6 q hq).same rfl hv⟩
def zTx (E : zEn) (A : Nat → Prop) (U : State) (H : Heap) : Prop := vk_S 18 (zSL.map List.length) zSL (fun j => E.1 j 95) (fun j => E.1 j 96) A U H ∧ (∀ q ∈ zSI, vk_R RX10 q.1 q.2.1 (E.1 q.2.2 95) U) ∧ va_Z "java/lang/String" "COMPACT_STRINGS" "Z" (.int 1) A U H ∧ va_Z "jdk/internal/util/Preconditions" "SIOOBE_FORMATTER" "Ljava/util/function/BiFunction;" E.2.2.2 A U H ∧ E.2.2.2.category = 1
theorem zTx.moved {E : zEn} {A : Nat → Prop} {u U : State} {H : Heap} (hW : u.WarmedH U.vm) (h : zTx E A u H) : zTx E A U H := by
  obtain ⟨h1, h2, h3, h4, h5⟩ := h
  exact ⟨h1.moved hW.alike, fun q hq => (h2 q hq).warm hW, h3.moved hW.alike, h4.moved hW.alike, h5⟩
theorem zTx.same {E : zEn} {A : Nat → Prop} {u U : State} {H : Heap} (hv : u.vm = U.vm) (h : zTx E A u H) : zTx E A U H := by
  obtain ⟨h1, h2, h3, h4, h5⟩ := h
  have hvm : u.vm.Alike U.vm := by rw [hv]; exact Vm.Alike.refl _
  exact ⟨h1.moved hvm, fun q hq => (h2 q hq).same hv.symm, h3.moved hvm, h4.moved hvm, h5⟩
theorem zTx.kept {E : zEn} {A : Nat → Prop} {U : State} {H H1 : Heap} (hq : ∀ a : Nat, a < H.size → ¬ A a → H1[a]? = H[a]?) (h : zTx E A U H) : zTx E A U H1 := by
  obtain ⟨h1, h2, h3, h4, h5⟩ := h
  exact ⟨h1.kept hq, h2, h3.kept hq, h4.kept hq, h5⟩
theorem zTx.narrow {E : zEn} {A B : Nat → Prop} {U : State} {H : Heap} (hAB : ∀ q, B q → A q) (h : zTx E A U H) : zTx E B U H := by
  obtain ⟨h1, h2, h3, h4, h5⟩ := h
  exact ⟨h1.narrow hAB, h2, h3.narrow hAB, h4.narrow hAB, h5⟩
def zWd (E : zEn) (σ : zM) (U : State) : Prop := zHp E σ U.heap ∧ zIj E ∧ zK E U ∧ zTx E (zA E) U U.heap
def zPc (E : zEn) (as : List zV) (σ : zM) : Array Value → State → Prop := fun v U => v = (as.map (zvv E)).toArray ∧ zWd E σ U
def zrv (rk : Nat) (r : Int32 × Int64 × zM) : Option Value := match rk with
  | 0 => none
  | 2 => some (.long r.2.1)
  | _ => some (.int r.1)
def zQc (E : zEn) (rk : Nat) (r : Int32 × Int64 × zM) : Array Value → State → Outcome → State → Prop := fun _ st oc t => oc = .returned (zrv rk r) ∧ zHp E r.2.2 t.heap ∧ t.heap.size = st.heap.size ∧ ∀ q : Nat, q < st.heap.size → ¬ zA E q → t.heap[q]? = st.heap[q]?
def zRm (d : Nat) : Room := { frames := d, cells := 0, slots := 0, locals := 60 * d }
def zMt (l : Launch) (E : zEn) (d : Nat) (q : MethodName × ByteArray × Nat × Option FieldType) (rk : Nat) (as : List zV) (σ : zM) (r : Int32 × Int64 × zM) : Prop :=
  Met l q.1 (Cond.code q.1 q.2.1 q.2.2.1 q.2.2.2 :: zGW) (zRm d) (zPc E as σ) (zQc E rk r) 0 0 (zA E)
def zokv (sb : Bool) : zV → Prop
  | .inr (.inr (g, k)) => match (zkd k).1 with
    | 5 => sb = true ∧ g = 0 ∧ k = 90
    | 6 => g < 18 ∧ k = 95
    | 7 => g < 18 ∧ k = 96
    | 9 => True
    | _ => g < zNI k
  | _ => True
def zls (E : zEn) : Nat → zL → List (Nat × Value)
  | _, [] => []
  | i, none :: r => zls E (i + 1) r
  | i, some v :: r => (i, zvv E v) :: zls E (i + 1) r
theorem zls_get {E : zEn} : ∀ {ls : zL} {b i : Nat} {v : zV}, zget ls i = some v → (b + i, zvv E v) ∈ zls E b ls
  | [], _, _, _, h => by cases h
  | none :: r, b, 0, v, h => by cases h
  | some w :: r, b, 0, v, h => by
    cases h
    exact List.mem_cons_self
  | none :: r, b, i + 1, v, h => by
    have := zls_get (E := E) (ls := r) (b := b + 1) h
    rw [show b + (i + 1) = b + 1 + i by omega]
    exact this
  | some w :: r, b, i + 1, v, h => by
    have := zls_get (E := E) (ls := r) (b := b + 1) h
    rw [show b + (i + 1) = b + 1 + i by omega]
    exact List.mem_cons_of_mem _ this
theorem zls_ge {E : zEn} : ∀ {ls : zL} {b : Nat} {q}, q ∈ zls E b ls → b ≤ q.1
  | [], _, _, h => by cases h
  | none :: r, b, q, h => Nat.le_of_succ_le (zls_ge (ls := r) h)
  | some w :: r, b, q, h => by
    rcases List.mem_cons.mp h with h | h
    · rw [h]; exact Nat.le_refl _
    · exact Nat.le_of_succ_le (zls_ge (ls := r) h)
theorem zcat {E : zEn} (hE : E.2.2.2.category = 1) (x : Nat × Nat) : (zvv E (.inr (.inr x))).category = 1 := by
  obtain ⟨g, k⟩ := x
  show (bif Nat.beq k 99 then E.2.2.2 else Value.ref (E.1 g k)).category = 1
  cases Nat.beq k 99
  · rfl
  · exact hE
theorem zls_put {E : zEn} (hE : E.2.2.2.category = 1) : ∀ {ls : zL} {b i : Nat} {v : zV} {q}, q ∈ zls E b (zput ls i v) → q = (b + i, zvv E v) ∨ (q ∈ zls E b ls ∧ ¬ q.1 = b + i ∧ ¬ (q.1 + 1 = b + i ∧ q.2.category = 2))
  | [], b, i, v, q, h => by
    cases i with
    | zero => cases h
    | succ i => cases i <;> cases h
  | a :: r, b, 0, v, q, h => by
    rcases List.mem_cons.mp h with h1 | h1
    · exact Or.inl h1
    · have := zls_ge h1
      refine Or.inr ⟨?_, by omega, fun z => by omega⟩
      cases a with
      | none => exact h1
      | some w => exact List.mem_cons_of_mem _ h1
  | a :: r, b, 1, v, q, h => by
    have key : ∀ {q}, q ∈ zls E (b + 1) (zput r 0 v) → q = (b + 1, zvv E v) ∨ (q ∈ zls E b (a :: r) ∧ ¬ q.1 = b + 1 ∧ ¬ (q.1 + 1 = b + 1 ∧ q.2.category = 2)) := fun {q} h => by
      rcases zls_put hE (ls := r) h with h | ⟨h1, h2, h3⟩
      · exact Or.inl h
      · have := zls_ge h1
        refine Or.inr ⟨?_, by simpa using h2, fun z => by omega⟩
        cases a with
        | none => exact h1
        | some w => exact List.mem_cons_of_mem _ h1
    cases a with
    | none => exact key h
    | some w =>
      rcases w with x | x | x
      · rcases List.mem_cons.mp h with h | h
        · subst h
          exact Or.inr ⟨List.mem_cons_self, by simp, fun z => by simp [zvv, Value.category] at z⟩
        · exact key h
      · exact key h
      · rcases List.mem_cons.mp h with h | h
        · subst h
          refine Or.inr ⟨List.mem_cons_self, by simp, fun z => ?_⟩
          have hz : (zvv E (.inr (.inr x))).category = 2 := z.2
          rw [zcat hE x] at hz
          cases hz
        · exact key h
  | a :: r, b, i + 2, v, q, h => by
    have key : ∀ {q}, q ∈ zls E (b + 1) (zput r (i + 1) v) → q = (b + (i + 2), zvv E v) ∨ (q ∈ zls E b (a :: r) ∧ ¬ q.1 = b + (i + 2) ∧ ¬ (q.1 + 1 = b + (i + 2) ∧ q.2.category = 2)) := fun {q} h => by
      rcases zls_put hE (ls := r) h with h | ⟨h1, h2, h3⟩
      · exact Or.inl (by rw [h]; congr 1; omega)
      · refine Or.inr ⟨?_, fun z => h2 (by omega), fun z => h3 ⟨by omega, z.2⟩⟩
        cases a with
        | none => exact h1
        | some w => exact List.mem_cons_of_mem _ h1
    cases a with
    | none => exact key h
    | some w =>
      rcases List.mem_cons.mp h with h | h
      · subst h
        exact Or.inr ⟨List.mem_cons_self, by simp only []; omega, fun z => by simp only [] at z; omega⟩
      · exact key h
