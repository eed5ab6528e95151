def iI (z : Int) : Int32 := Int32.ofInt z
abbrev zrn (z : Int) : Prop := -2147483648 ≤ z ∧ z ≤ 2147483647
theorem iI_add (a b : Int) : iI a + iI b = iI (a + b) := (Int32.ofInt_add a b).symm
theorem iI_sub (a b : Int) : iI a - iI b = iI (a - b) := (Int32.ofInt_sub a b).symm
theorem iI_mul (a b : Int) : iI a * iI b = iI (a * b) := (Int32.ofInt_mul a b).symm
theorem iI_neg (a : Int) : -iI a = iI (-a) := (Int32.ofInt_neg a).symm
theorem iI_t (x : Int32) : iI x.toInt = x := Int32.ofInt_toInt x
theorem t_rn (x : Int32) : zrn x.toInt := by
  have h1 := x.toInt_lt
  have h2 := x.le_toInt
  omega
theorem t_iI {z : Int} (h : zrn z) : (iI z).toInt = z := Int32.toInt_ofInt_of_le (by omega) (by omega)
theorem iI_lt {a b : Int} (ha : zrn a) (hb : zrn b) : (iI a < iI b) = (a < b) := by rw [zlt32, t_iI ha, t_iI hb]
theorem iI_inj {a b : Int} (ha : zrn a) (hb : zrn b) (h : iI a = iI b) : a = b := by
  have := congrArg Int32.toInt h
  rwa [t_iI ha, t_iI hb] at this
theorem iI_eq {a b : Int} (ha : zrn a) (hb : zrn b) : (iI a = iI b) = (a = b) := propext ⟨iI_inj ha hb, fun h => h ▸ rfl⟩
theorem iI_N {z : Int} (h0 : 0 ≤ z) (h : z ≤ 2147483647) : Int32.toNatClampNeg (iI z) = z.toNat := Int32.toNatClampNeg_ofInt_of_le (by omega) (by omega)
theorem iI_Nn {n : Nat} (h : n ≤ 2147483647) : Int32.toNatClampNeg (iI (n : Int)) = n := by
  rw [iI_N (by omega) (by omega)]
  omega
theorem iI_in {z : Int} {n : Nat} (h0 : 0 ≤ z) (h : z < n) (hn : n ≤ 1000) : zin (iI z) n = true := by
  refine zin_rg ?_
  show _ ≤ (iI z).toInt ∧ (iI z).toInt ≤ _
  rw [t_iI (by omega)]
  omega
theorem iI_ub (z : Int) {x : Int32} (h : x = iI z) (hz : zrn z) : x.toInt = z := by rw [h, t_iI hz]
theorem iI_Nk {z : Int} {n : Nat} (e : z = n) (h : n ≤ 2147483647) : Int32.toNatClampNeg (iI z) = n := by rw [e, iI_Nn h]
theorem iI_ink {z : Int} {k n : Nat} (e : z = k) (h : k < n) (hn : n ≤ 1000) : zin (iI z) n = true := iI_in (by omega) (by omega) hn
theorem zin_N {x : Int32} {n : Nat} (h : zin x n = true) : ∃ k : Nat, k < n ∧ x = iI k := by
  unfold zin at h
  rw [Bool.and_eq_true] at h
  have h1 : (0 : Int32) ≤ x := of_decide_eq_true h.1
  have h2 := Nat.blt_eq.mp h.2
  refine ⟨x.toNatClampNeg, h2, ?_⟩
  rw [Int32.le_iff_toInt_le] at h1
  have z : (0 : Int32).toInt = 0 := by decide
  rw [z] at h1
  have e : x.toNatClampNeg = x.toInt.toNat := rfl
  have e2 : ((x.toNatClampNeg : Nat) : Int) = x.toInt := by omega
  rw [e2, iI_t]
theorem zfn {σ : zM} {g k i : Nat} {v : Int32} {g' k' : Nat} (h : ¬ (g' = g ∧ k' = k)) : (zwI σ g k i v).1 g' k' = σ.1 g' k' := funext fun j => if_neg fun z => h ⟨z.1, z.2.1⟩
theorem zfe {σ : zM} {g k i : Nat} {v : Int32} {g' k' j : Nat} (h : ¬ (g' = g ∧ k' = k ∧ j = i)) : (zwI σ g k i v).1 g' k' j = σ.1 g' k' j := if_neg h
theorem zfs {σ : zM} {g k i : Nat} {v : Int32} : (zwI σ g k i v).1 g k i = v := if_pos ⟨rfl, rfl, rfl⟩
theorem zwpI {X : zR} {P Q : Int32 → Int64 → zM → Prop} (h : zwp X P) (h2 : zwp X Q) : zwp X (fun a b σ => P a b σ ∧ Q a b σ) := by
  obtain ⟨a, b, σ, e, h⟩ := h
  obtain ⟨a2, b2, σ2, e2, h2⟩ := h2
  rw [e] at e2
  cases e2
  exact ⟨a, b, σ, e, h, h2⟩
theorem zwp_b {X : zR} {f : Int32 × Int64 × zM → zR} {P Q : Int32 → Int64 → zM → Prop} (h : zwp X Q) (h2 : ∀ a b σ, Q a b σ → zwp (f (a, b, σ)) P) : zwp (X.bind f) P := zwp_bind (zwp_mono h h2)
theorem zwp_eb {X : zR} {a b σ} {f : Int32 × Int64 × zM → zR} {P : Int32 → Int64 → zM → Prop} (h : X = some (a, b, σ)) (h2 : zwp (f (a, b, σ)) P) : zwp (X.bind f) P := by rw [h]; exact h2
def zB (b : Bool) : Int32 := bif b then 1 else 0
theorem zB_0 {b : Bool} : (zB b = 0) = (b = false) := by cases b <;> decide
theorem zB_1 {b : Bool} : (zB b = 1) = (b = true) := by cases b <;> decide
theorem zB_g {b : Bool} {x : zR} : zgd (zret 3 (zB b)) x = x := by cases b <;> exact zgd_t rfl
theorem zB_d {P : Prop} {hP : Decidable P} {σ : zM} : (if P then zgd (zret 3 1) (some (1, 0, σ)) else zgd (zret 3 0) (some (0, 0, σ))) = (some (zB (decide P), 0, σ) : zR) := by
  by_cases h : P
  · rw [if_pos h, zg31, decide_eq_true h]; rfl
  · rw [if_neg h, zg30, decide_eq_false h]; rfl
theorem zB_n {P : Prop} {hP : Decidable P} {σ : zM} : (if P then zgd (zret 3 0) (some (0, 0, σ)) else zgd (zret 3 1) (some (1, 0, σ))) = (some (zB (!decide P), 0, σ) : zR) := by
  by_cases h : P
  · rw [if_pos h, zg30, decide_eq_true h]; rfl
  · rw [if_neg h, zg31, decide_eq_false h]; rfl
theorem zB_t : (1 : Int32) = zB true := rfl
theorem zB_f : (0 : Int32) = zB false := rfl
theorem zbif {b : Bool} {x y : zR} : (if b = false then x else y) = (if b = true then y else x) := by cases b <;> rfl
def zsum (f : Nat → Int) : Nat → Int
  | 0 => 0
  | n + 1 => zsum f n + f n
theorem zsum_congr {f g : Nat → Int} : ∀ {n : Nat}, (∀ i, i < n → f i = g i) → zsum f n = zsum g n
  | 0, _ => rfl
  | n + 1, h => by
    show zsum f n + f n = zsum g n + g n
    rw [zsum_congr (fun i hi => h i (by omega)), h n (by omega)]
theorem zsum_le {f : Nat → Int} {a b : Int} : ∀ {n : Nat}, (∀ i, i < n → a ≤ f i ∧ f i ≤ b) → n * a ≤ zsum f n ∧ zsum f n ≤ n * b
  | 0, _ => by simp [zsum]
  | n + 1, h => by
    have h1 := zsum_le (n := n) (fun i hi => h i (by omega))
    have h2 := h n (by omega)
    have e1 : ((n + 1 : Nat) : Int) * a = n * a + a := by rw [Int.natCast_add, Int.add_mul]; simp
    have e2 : ((n + 1 : Nat) : Int) * b = n * b + b := by rw [Int.natCast_add, Int.add_mul]; simp
    show _ ≤ zsum f n + f n ∧ zsum f n + f n ≤ _
    rw [e1, e2]
    omega
theorem zloop {n : Nat} {P : Nat → Prop} (h0 : P n) (hs : ∀ i, i < n → P (i + 1) → P i) : ∀ {i : Nat}, i ≤ n → P i := by
  intro i hi
  have key : ∀ m i, i + m = n → P i := by
    intro m
    induction m with
    | zero => intro i e; rw [show i = n by omega]; exact h0
    | succ m ih => intro i e; exact hs i (by omega) (ih (i + 1) (by omega))
  exact key (n - i) i (by omega)
