set_option maxRecDepth 100000
def yAdr (g k : Nat) : Nat := (yAL.getD k []).getD g 0
def z0c (k j : Nat) : Int32 := if k = 0 ∧ j = 3 then 1 else if k = 42 then -1 else if k = 61 ∧ j = 6 then 1 else if k = 73 then -1 else 0
def yck1 (h : List yC) (g k : Nat) : Bool := match zkd k, h[yAdr g k]? with
  | (0, c), some (0, ci, fs, _) => Nat.beq c ci && (Nat.beq fs.length (zNF ci) && (List.range (zNF c)).all fun j => match zed k j with
    | none => decide (fs[j]? = some (.inl (z0c k j)))
    | some (none, k2) => decide (fs[j]? = some (.inr (some (yAdr g k2))))
    | some (some g2, k2) => decide (fs[j]? = some (.inr (some (yAdr g2 k2)))))
  | (1, n), some (1, n', _, f) => Nat.beq n n' && (List.range n).all fun j => decide (f j = z0c k j)
  | (2, n), some (2, n', _, _) => Nat.beq n n'
  | (3, n), some (3, n', fs, _) => Nat.beq n n' && (List.range n).all fun j => decide (fs[j]? = some (.inr (some (yAdr j (k + 1)))))
  | (4, n), some (4, n', fs, _) => Nat.beq n n' && (List.range n).all fun j => decide (fs[j]? = some (.inr (some (yAdr j (k + 1)))))
  | _, _ => false
def ychk (h : List yC) : Bool := (List.range 98).all fun k => (List.range (zNI k)).all fun g => yck1 h g k
def ytst : Bool := match yev 6 11 0 [yOB 11] with
  | some h1 => Nat.beq h1.length 132 && (match yev 6 12 132 (h1 ++ [yOB 12]) with
    | some h2 => Nat.beq h2.length 152 && ychk h2
    | none => false)
  | none => false
theorem ytst_t : ytst = true := by decide +kernel
theorem y_cells : ∃ h1 h2 : List yC, yev 6 11 0 [yOB 11] = some h1 ∧ h1.length = 132 ∧ yev 6 12 132 (h1 ++ [yOB 12]) = some h2 ∧ h2.length = 152 ∧ ychk h2 = true := by
  have h := ytst_t
  unfold ytst at h
  split at h
  · rename_i h1 e1
    simp only [Bool.and_eq_true] at h
    obtain ⟨a1, h⟩ := h
    split at h
    · rename_i h2 e2
      simp only [Bool.and_eq_true] at h
      exact ⟨h1, h2, e1, Nat.eq_of_beq_eq_true a1, e2, Nat.eq_of_beq_eq_true h.1, h.2⟩
    · cases h
  · cases h
theorem y_inv : ∀ k, k < 98 → ∀ g, g < zNI k → yIN.getD (yAdr g k) (0, 0) = (g, k) := by decide +kernel
theorem zNI_far {g k : Nat} (h : g < zNI k) : k < 98 := by
  rcases Nat.lt_or_ge k 98 with q | q
  · exact q
  · have hl : zNIL.length = 98 := by decide +kernel
    unfold zNI at h
    rw [List.getD_eq_getElem?_getD, List.getElem?_eq_none (by omega)] at h
    cases h
theorem y_ij {E : zEn} {z : Nat} (hE : ∀ g k, g < zNI k → E.1 g k = z + yAdr g k) : zIj E := by
  intro g k g' k' h h' he
  rw [hE g k h, hE g' k' h'] at he
  have e : yAdr g k = yAdr g' k' := by omega
  have a := y_inv k (zNI_far h) g h
  have b := y_inv k' (zNI_far h') g' h'
  rw [e, b] at a
  cases a
  exact ⟨rfl, rfl⟩
theorem y_hp {E : zEn} {z : Nat} {hs : List yC} {σ : zM} {H : Heap} (hc : ychk hs = true) (hR : yRp E z hs H) (hE : ∀ g k, g < zNI k → E.1 g k = z + yAdr g k) (h1 : ∀ g k j, g < zNI k → σ.1 g k j = z0c k j) (h2 : ∀ g k j, σ.2 g k j = 0) : zHp E σ H := by
  intro g k hg
  have hk := zNI_far hg
  have hq := List.all_eq_true.mp (List.all_eq_true.mp hc k (List.mem_range.mpr hk)) g (List.mem_range.mpr hg)
  unfold yck1 at hq
  unfold zAt
  rw [hE g k hg]
  split at hq
  · rename_i c ci fs f e1 e2
    simp only [Bool.and_eq_true] at hq
    obtain ⟨q1, q2, q3⟩ := hq
    have := Nat.eq_of_beq_eq_true q1
    subst this
    rw [e1]
    obtain ⟨-, hl, hO⟩ := hR.2 _ _ e2
    refine t_OB.to hO fun j hj => ?_
    have hj2 := List.all_eq_true.mp q3 j (List.mem_range.mpr hj)
    unfold zFv
    have hed : ∀ j go k2, zed k j = some (go, k2) → go.getD g < zNI k2 := fun j go k2 hz => (zed_ok e1 hz hg rfl).1
    split at hj2
    · rename_i hz
      rw [hz, List.getD_eq_getElem?_getD, of_decide_eq_true hj2, h1 g k j hg]
      rfl
    · rename_i k2 hz
      rw [hz, List.getD_eq_getElem?_getD, of_decide_eq_true hj2]
      show Value.ref (z + yAdr g k2) = Value.ref (E.1 g k2)
      rw [hE g k2 (hed j none k2 hz)]
    · rename_i g2 k2 hz
      rw [hz, List.getD_eq_getElem?_getD, of_decide_eq_true hj2]
      show Value.ref (z + yAdr g2 k2) = Value.ref (E.1 g2 k2)
      rw [hE g2 k2 (hed j (some g2) k2 hz)]
  · rename_i n n' _ f e1 e2
    simp only [Bool.and_eq_true] at hq
    have := Nat.eq_of_beq_eq_true hq.1
    subst this
    rw [e1]
    have hO := hR.2 _ _ e2
    refine Eq.trans hO (congrArg some (yarr_c fun j hj => ?_))
    rw [of_decide_eq_true (List.all_eq_true.mp hq.2 j (List.mem_range.mpr hj)), h1 g k j hg]
  · rename_i n n' _ _ e1 e2
    have := Nat.eq_of_beq_eq_true hq
    subst this
    rw [e1]
    have hO := hR.2 _ _ e2
    refine Eq.trans hO (congrArg some (yarr_c fun j hj => ?_))
    rw [h2]
  · rename_i n n' fs _ e1 e2
    simp only [Bool.and_eq_true] at hq
    have := Nat.eq_of_beq_eq_true hq.1
    subst this
    rw [e1]
    have hO := hR.2 _ _ e2
    refine Eq.trans hO (congrArg some (yarr_c fun j hj => ?_))
    have := zkd_inner e1 (Or.inl rfl)
    rw [List.getD_eq_getElem?_getD, of_decide_eq_true (List.all_eq_true.mp hq.2 j (List.mem_range.mpr hj)), hE j (k + 1) (by rw [this.1]; exact hj)]
    rfl
  · rename_i n n' fs _ e1 e2
    simp only [Bool.and_eq_true] at hq
    have := Nat.eq_of_beq_eq_true hq.1
    subst this
    rw [e1]
    have hO := hR.2 _ _ e2
    refine Eq.trans hO (congrArg some (yarr_c fun j hj => ?_))
    have := zkd_inner e1 (Or.inr rfl)
    rw [List.getD_eq_getElem?_getD, of_decide_eq_true (List.all_eq_true.mp hq.2 j (List.mem_range.mpr hj)), hE j (k + 1) (by rw [this.1]; exact hj)]
    rfl
  · cases hq
