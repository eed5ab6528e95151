def wMem (σ : zM) : List Int → Prop
  | [] => True
  | u :: R => σ.1 0 34 R.length = iI u ∧ wMem σ R
theorem wMem_f {σ τ : zM} : ∀ {R : List Int}, wMem σ R → (∀ i, i < R.length → τ.1 0 34 i = σ.1 0 34 i) → wMem τ R
  | [], _, _ => trivial
  | u :: R, h, e => ⟨(e R.length (Nat.lt_succ_self _)).trans h.1, wMem_f h.2 (fun i hi => e i (Nat.lt_succ_of_lt hi))⟩
def cMm (c0 o : Nat) (L R : List Int) (σ : zM) : Prop := σ.1 0 33 3 = iI o ∧ σ.1 0 33 4 = iI (c0 + L.length : Nat) ∧ (∀ i, i < L.length → σ.1 4 12 (c0 + i) = iI (L.getD i 0)) ∧ σ.1 0 33 6 = iI (R.length : Nat) ∧ wMem σ R
theorem getD_a {L : List Int} {p : Int} : ∀ {i : Nat}, i < L.length → (L ++ [p]).getD i 0 = L.getD i 0 := by
  induction L with
  | nil => intro i h; exact absurd h (Nat.not_lt_zero i)
  | cons a L ih =>
    intro i h
    cases i with
    | zero => rfl
    | succ i => exact ih (Nat.lt_of_succ_lt_succ h)
theorem getD_e {L : List Int} {p : Int} : (L ++ [p]).getD L.length 0 = p := by
  induction L with
  | nil => rfl
  | cons a L ih => exact ih
abbrev Wst (c0 : Nat) : Nat → Nat → Nat → Prop := fun g k i => (g = 4 ∧ k = 12 ∧ c0 ≤ i) ∨ (g = 0 ∧ k = 33 ∧ i = 4)
abbrev Wsw (c0 : Nat) : Nat → Nat → Nat → Prop := fun g k i => (g = 4 ∧ k = 12 ∧ c0 ≤ i) ∨ (g = 0 ∧ k = 33 ∧ (i = 4 ∨ i = 6))
theorem zc62 {d c0 o : Nat} {L R : List Int} {p : Int} {σ : zM} (h : cMm c0 o L R σ) (hk : c0 + L.length < 200) : ∃ τ, zev (d + 1) 62 [.inr (.inr (0, 33)), .inl (iI p)] σ = some (0, 0, τ) ∧ zFr (Wst c0) σ τ ∧ cMm c0 o (L ++ [p]) R τ := by
  obtain ⟨h1, h2, h3, h4, h5⟩ := h
  have e200 : (iI ((c0 + L.length : Nat) : Int) < 200) = (((c0 + L.length : Nat) : Int) < 200) := iI_lt (b := 200) (by omega) (by decide)
  rw [ez_62, h2]
  simp only [e200]
  rw [if_pos (by omega), zgd_t (iI_ink (z := ((c0 + L.length : Nat) : Int)) (k := c0 + L.length) rfl hk (by decide)), iI_Nn (show c0 + L.length ≤ 2147483647 by omega), zfe (by omega), h2, hki1]
  refine ⟨_, rfl, zFr_tt (zFr_w (by omega)) (zFr_w (by omega)), by rw [zfe (by omega), zfe (by omega)]; exact h1, by rw [zfs, List.length_append]; rfl, fun i hi => ?_, by rw [zfe (by omega), zfe (by omega)]; exact h4, wMem_f h5 (fun i _ => by rw [zfe (by omega), zfe (by omega)])⟩
  rw [List.length_append] at hi
  have hi : i < L.length + 1 := hi
  rw [zfe (by omega)]
  by_cases q : i = L.length
  · subst q
    rw [zfs, getD_e]
  · rw [zfe (by omega), getD_a (by omega)]
    exact h3 i (by omega)
theorem zc60 {d c0 o : Nat} {L R : List Int} {p : Int} {σ : zM} (h : cMm c0 o L R σ) (hk : R.length < 200) : ∃ τ, zev (d + 1) 60 [.inr (.inr (0, 33)), .inl (iI p)] σ = some (0, 0, τ) ∧ zFr (fun g k i => g = 0 ∧ (k = 34 ∨ (k = 33 ∧ i = 6))) σ τ ∧ cMm c0 o L (p :: R) τ := by
  obtain ⟨h1, h2, h3, h4, h5⟩ := h
  have e200 : (iI ((R.length : Nat) : Int) < 200) = (((R.length : Nat) : Int) < 200) := iI_lt (b := 200) (by omega) (by decide)
  rw [ez_60, h4]
  simp only [e200]
  rw [if_pos (by omega), zgd_t (iI_ink (z := ((R.length : Nat) : Int)) (k := R.length) rfl hk (by decide)), iI_Nn (show R.length ≤ 2147483647 by omega), zfe (by omega), h4, hki1]
  refine ⟨_, rfl, zFr_tt (zFr_w (by omega)) (zFr_w (by omega)), by rw [zfe (by omega), zfe (by omega)]; exact h1, by rw [zfe (by omega), zfe (by omega)]; exact h2, fun i hi => by rw [zfe (by omega), zfe (by omega)]; exact h3 i hi, by rw [zfs]; rfl, ?_, wMem_f h5 (fun i hi => by rw [zfe (by omega), zfe (by omega)])⟩
  rw [zfe (by omega), zfs]
def pW (j : Int) : List Int → List Int
  | [] => []
  | u :: R => if j ≤ u then u :: pW j R else []
def dW (j : Int) : List Int → List Int
  | [] => []
  | u :: R => if j ≤ u then dW j R else u :: R
theorem pW_l {j : Int} : ∀ R : List Int, (pW j R).length + (dW j R).length = R.length
  | [] => rfl
  | u :: R => by
    have ih := pW_l (j := j) R
    unfold pW dW
    split
    · rw [List.length_cons, List.length_cons]; omega
    · exact Nat.zero_add _
theorem zc61 {d c0 o : Nat} {j : Int} (hj : zrn j) : ∀ (R L : List Int) (σ : zM), cMm c0 o L R σ → (∀ u, u ∈ R → zrn u) → c0 + L.length + R.length ≤ 200 → ∃ τ, zrun (zev (d + 1)) zT_61 7 [some (.inr (.inr (0, 33))), some (.inl (iI j)), some (.inl (iI ((R.length : Nat) - 1 : Int)))] [] σ = some (0, 0, τ) ∧ zFr (Wsw c0) σ τ ∧ cMm c0 o (L ++ pW j R) (dW j R) τ
  | [], L, σ, h, _, _ => by
    rw [ez_61_7, if_pos (by rw [iI_lt0 (by decide)]; decide)]
    refine ⟨σ, rfl, zFr_r σ, ?_⟩
    show cMm c0 o (L ++ []) [] σ
    rw [List.append_nil]
    exact h
  | u :: R, L, σ, h, hu, hk => by
    have hk : c0 + L.length + (R.length + 1) ≤ 200 := hk
    have hu0 := hu u (List.mem_cons.mpr (Or.inl rfl))
    have ei : iI (((u :: R).length : Nat) - 1 : Int) = iI (R.length : Nat) := by
      rw [List.length_cons]; congr 1; omega
    have h34 : σ.1 0 34 R.length = iI u := h.2.2.2.2.1
    have m1 : iI ((R.length : Nat) : Int) + -1 = iI ((R.length : Nat) - 1 : Int) := by
      rw [zlitm1, iI_add]; congr 1
    rw [ei, ez_61_7, if_neg (by rw [iI_lt0 (by omega)]; omega), zgd_t (iI_ink (z := ((R.length : Nat) : Int)) (k := R.length) rfl (by omega) (by decide)), iI_Nn (show R.length ≤ 2147483647 by omega), h34]
    simp only [iI_lt hu0 hj, m1]
    unfold pW dW
    by_cases q : u < j
    · rw [if_pos q, if_neg (by omega), if_neg (by omega)]
      refine ⟨σ, rfl, zFr_r σ, ?_⟩
      rw [List.append_nil]
      exact h
    · obtain ⟨τ, g1, g2, g3⟩ := zc62 (d := d) (p := u) h (by omega)
      rw [if_neg q, if_pos (by omega), if_pos (by omega), zgd_t (iI_ink (z := ((R.length : Nat) : Int)) (k := R.length) rfl (by omega) (by decide)), g1]
      simp only [zbs]
      have h2 : cMm c0 o (L ++ [u]) R (zwI τ 0 33 6 (iI (R.length : Nat))) := by
        obtain ⟨a1, a2, a3, a4, a5⟩ := g3
        exact ⟨by rw [zfe (by omega)]; exact a1, by rw [zfe (by omega)]; exact a2, fun i hi => by rw [zfe (by omega)]; exact a3 i hi, zfs, wMem_f a5.2 (fun i _ => by rw [zfe (by omega)])⟩
      obtain ⟨υ, y1, y2, y3⟩ := zc61 (d := d) hj R (L ++ [u]) _ h2 (fun v hv => hu v (List.mem_cons.mpr (Or.inr hv))) (by rw [List.length_append]; show c0 + (L.length + 1) + R.length ≤ 200; omega)
      refine ⟨υ, y1, zFr_tt (zFr_tt (zFr_i g2 fun _ _ _ q => by omega) (zFr_w (by omega))) y2, ?_⟩
      rw [List.append_assoc] at y3
      exact y3
theorem zc61e {d c0 o : Nat} {j : Int} {R L : List Int} {σ : zM} (hj : zrn j) (h : cMm c0 o L R σ) (hu : ∀ u, u ∈ R → zrn u) (hk : c0 + L.length + R.length ≤ 200) : ∃ τ, zev (d + 2) 61 [.inr (.inr (0, 33)), .inl (iI j)] σ = some (0, 0, τ) ∧ zFr (Wsw c0) σ τ ∧ cMm c0 o (L ++ pW j R) (dW j R) τ := by
  rw [ez_61, h.2.2.2.1, show iI ((R.length : Nat) : Int) - 1 = iI ((R.length : Nat) - 1 : Int) from iI_sub _ 1]
  exact zc61 hj R L σ h hu hk
