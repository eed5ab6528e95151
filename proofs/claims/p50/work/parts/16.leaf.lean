abbrev zrg (l : Int) (p : Int32) (h : Int) : Prop := l ≤ p.toInt ∧ p.toInt ≤ h
theorem zbs {x : Int32 × Int64 × zM} {f : Int32 × Int64 × zM → zR} : Option.bind (some x : zR) f = f x := rfl
theorem zg31 {x : zR} : zgd (zret 3 1) x = x := zgd_t rfl
theorem zg30 {x : zR} : zgd (zret 3 0) x = x := zgd_t rfl
theorem zi10 : ((1 : Int32) = 0) = False := eq_false (by decide)
theorem zif0 {P : Prop} {hP : Decidable P} {A B : zR} : (if (if P then (1 : Int32) else 0) = 0 then A else B) = (if P then B else A) := by
  by_cases q : P
  · simp only [if_pos q, zi10, if_false]
  · simp only [if_neg q, if_true]
theorem zg3i {P : Prop} {hP : Decidable P} {x : zR} : zgd (zret 3 (if P then (1 : Int32) else 0)) x = x := by
  by_cases q : P
  · simp only [if_pos q]; exact zg31
  · simp only [if_neg q]; exact zg30
theorem zlt32 {a b : Int32} : (a < b) = (a.toInt < b.toInt) := propext Int32.lt_iff_toInt_lt
theorem zlt64 {a b : Int64} : (a < b) = (a.toInt < b.toInt) := propext Int64.lt_iff_toInt_lt
theorem F141 {d : Nat} {p l h : Int32} {σ : zM} : zev (d + 1) 141 [.inl p, .inl l, .inl h] σ = some (if zrg l.toInt p h.toInt then 1 else 0, 0, σ) := by
  rw [ez_141]
  show (if p < l then _ else _) = _
  simp only [zlt32, zg30, zg31]
  by_cases h1 : p.toInt < l.toInt
  · rw [if_pos h1, if_neg (fun q : zrg l.toInt p h.toInt => absurd h1 (Int.not_lt.mpr q.1))]
  · by_cases h2 : h.toInt < p.toInt
    · rw [if_neg h1, if_pos h2, if_neg (fun q : zrg l.toInt p h.toInt => absurd h2 (Int.not_lt.mpr q.2))]
    · rw [if_neg h1, if_neg h2, if_pos (⟨Int.not_lt.mp h1, Int.not_lt.mp h2⟩ : zrg l.toInt p h.toInt)]
theorem F149 {d : Nat} {p : Int32} {l h : Int64} {σ : zM} : zev (d + 1) 149 [.inr (.inl (Int32.toInt64 p)), .inr (.inl l), .inr (.inl h)] σ = some (if zrg l.toInt p h.toInt then 1 else 0, 0, σ) := by
  rw [ez_149]
  show (if lg_cmp _ _ < 0 then _ else _) = _
  simp only [lg_cmp_lt, lg_cmp_gt, zlt64, Int32.toInt_toInt64, zg30, zg31]
  by_cases h1 : p.toInt < l.toInt
  · rw [if_pos h1, if_neg (fun q : zrg l.toInt p h.toInt => absurd h1 (Int.not_lt.mpr q.1))]
  · by_cases h2 : h.toInt < p.toInt
    · rw [if_neg h1, if_pos h2, if_neg (fun q : zrg l.toInt p h.toInt => absurd h2 (Int.not_lt.mpr q.2))]
    · rw [if_neg h1, if_neg h2, if_pos (⟨Int.not_lt.mp h1, Int.not_lt.mp h2⟩ : zrg l.toInt p h.toInt)]
theorem F142 {d : Nat} {p : Int32} {σ : zM} : zev (d + 2) 142 [.inl p] σ = some (if zrg 1 p 5 then 1 else 0, 0, σ) := by
  rw [ez_142]
  show (Option.bind (zev (d + 1) 141 _ σ) _) = _
  rw [F141, zbs]
  exact zg3i
theorem F144 {d : Nat} {p : Int32} {σ : zM} : zev (d + 2) 144 [.inl p] σ = some (if zrg 0 p 3 then 1 else 0, 0, σ) := by
  rw [ez_144]
  show (Option.bind (zev (d + 1) 141 _ σ) _) = _
  rw [F141, zbs]
  exact zg3i
theorem zrg01 {p : Int32} : zrg 0 p 1 ↔ p = 0 ∨ p = 1 := by
  constructor
  · intro h
    rcases (by omega : p.toInt = 0 ∨ p.toInt = 1) with q | q
    · exact Or.inl (Int32.toInt_inj.mp q)
    · exact Or.inr (Int32.toInt_inj.mp q)
  · intro h
    rcases h with rfl | rfl
    · decide
    · decide
theorem F143 {d : Nat} {p : Int32} {σ : zM} : zev (d + 1) 143 [.inl p] σ = some (if zrg 0 p 1 then 1 else 0, 0, σ) := by
  rw [ez_143]
  show (if p = 0 then _ else _) = _
  simp only [zg30, zg31]
  by_cases h1 : p = 0
  · rw [if_pos h1, if_pos (zrg01.mpr (Or.inl h1))]
  · by_cases h2 : p = 1
    · rw [if_neg h1, if_pos h2, if_pos (zrg01.mpr (Or.inr h2))]
    · rw [if_neg h1, if_neg h2, if_neg (fun q => (zrg01.mp q).elim h1 h2)]
theorem F249 {d : Nat} {p : Int32} {σ : zM} : zev (d + 2) 249 [.inl p] σ = some (if zrg 0 p 3 then 1 else 0, 0, σ) := by
  rw [ez_249]
  show (Option.bind (zev (d + 1) 149 _ σ) _) = _
  rw [F149, zbs]
  exact zg3i
theorem zthere {p c : Int32} {x : zM} : (if p < 0 then zgd (zret 3 0) (some (0, 0, x)) else if p < c then zgd (zret 3 1) (some (1, 0, x)) else zgd (zret 3 0) (some (0, 0, x))) = (some (if zrg 0 p (c.toInt - 1) then 1 else 0, 0, x) : zR) := by
  simp only [zlt32, zg30, zg31]
  have z : (0 : Int32).toInt = 0 := by decide
  rw [z]
  by_cases h1 : p.toInt < 0
  · rw [if_pos h1, if_neg (fun q : zrg 0 p (c.toInt - 1) => absurd h1 (Int.not_lt.mpr q.1))]
  · by_cases h2 : p.toInt < c.toInt
    · rw [if_neg h1, if_pos h2, if_pos (⟨Int.not_lt.mp h1, by omega⟩ : zrg 0 p (c.toInt - 1))]
    · rw [if_neg h1, if_neg h2, if_neg (fun q : zrg 0 p (c.toInt - 1) => by have := q.2; omega)]
theorem F13 {d g : Nat} {p : Int32} {σ : zM} : zev (d + 1) 13 [.inr (.inr (g, 1)), .inl p] σ = some (if zrg 0 p ((σ.1 g 1 0).toInt - 1) then 1 else 0, 0, σ) := by
  rw [ez_13]
  exact zthere
theorem F37 {d g : Nat} {p : Int32} {σ : zM} : zev (d + 1) 37 [.inr (.inr (g, 15)), .inl p] σ = some (if zrg 0 p ((σ.1 g 15 0).toInt - 1) then 1 else 0, 0, σ) := by
  rw [ez_37]
  exact zthere
theorem zsub1 {c : Int32} (h : 0 ≤ c.toInt) : (Int32.toInt64 (c - 1)).toInt = c.toInt - 1 := by
  have h2 := c.toInt_lt
  rw [Int32.toInt_toInt64, Int32.toInt_sub]
  have z : (1 : Int32).toInt = 1 := by decide
  rw [z, Int.bmod_def]
  omega
theorem F150 {d : Nat} {p : Int32} {σ : zM} (h : 0 ≤ (σ.1 0 61 0).toInt) : zev (d + 2) 150 [.inr (.inr (0, 60)), .inl p] σ = some (if zrg 0 p ((σ.1 0 61 0).toInt - 1) then 1 else 0, 0, σ) := by
  rw [ez_150]
  show (Option.bind (zev (d + 1) 149 _ σ) _) = _
  rw [F149, zbs, zsub1 h]
  exact zg3i
theorem F151 {d : Nat} {p : Int32} {σ : zM} (h : 0 ≤ (σ.1 0 61 2).toInt) : zev (d + 2) 151 [.inr (.inr (0, 60)), .inl p] σ = some (if zrg 0 p ((σ.1 0 61 2).toInt - 1) then 1 else 0, 0, σ) := by
  rw [ez_151]
  show (Option.bind (zev (d + 1) 149 _ σ) _) = _
  rw [F149, zbs, zsub1 h]
  exact zg3i
theorem zin_rg {p : Int32} {n : Nat} (h : zrg 0 p (n - 1)) : zin p n = true := by
  unfold zin
  have h0 : (0 : Int32) ≤ p := by
    rw [Int32.le_iff_toInt_le]
    exact h.1
  have h1 : p.toNatClampNeg < n := by
    have e : p.toNatClampNeg = p.toInt.toNat := rfl
    have := h.1
    have := h.2
    omega
  rw [Bool.and_eq_true]
  exact ⟨decide_eq_true h0, Nat.blt_eq.mpr h1⟩
theorem F159 {d : Nat} {p v : Int32} {σ : zM} : zev (d + 2) 159 [.inl p, .inl v] σ = some (if p = 2 ∧ zrg 1 v 9 ∨ p = 3 ∧ zrg 1 v 999 then 1 else 0, 0, σ) := by
  rw [ez_159]
  show (if p = 2 then Option.bind (zev (d + 1) 149 _ σ) _ else _) = _
  simp only [F149, zbs, zif0]
  have l1 : (1 : Int64).toInt = 1 := by decide
  have l2 : (9 : Int64).toInt = 9 := by decide
  have l3 : (999 : Int64).toInt = 999 := by decide
  simp only [l1, l2, l3, zg30, zg31]
  by_cases h2 : p = 2
  · subst h2
    have n3 : ((2 : Int32) = 3) = False := eq_false (by decide)
    simp only [n3, if_true, if_false, true_and, false_and, or_false]
    by_cases q : zrg 1 v 9
    · simp only [if_pos q]
    · simp only [if_neg q]
  · by_cases h3 : p = 3
    · subst h3
      have n3 : ((3 : Int32) = 2) = False := eq_false (by decide)
      simp only [n3, if_true, if_false, true_and, false_and, false_or]
      by_cases q : zrg 1 v 999
      · simp only [if_pos q]
      · simp only [if_neg q]
    · simp only [if_neg h2, if_neg h3, h2, h3, false_and, false_or, if_false]
