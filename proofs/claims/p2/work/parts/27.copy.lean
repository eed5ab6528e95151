theorem zcop_rd (σ : zM) (g k sp g2 k2 dp n g' k' i' : Nat) : (zcop σ g k sp g2 k2 dp n).1 g' k' i' = if g' = g2 ∧ k' = k2 ∧ dp ≤ i' ∧ i' < dp + n then σ.1 g k (sp + (i' - dp)) else σ.1 g' k' i' := rfl
theorem zc148_2 {d h g : Nat} {σ : zM} : zev (d + 2) 148 [.inr (.inr (h, 2)), .inr (.inr (g, 2))] σ = some (0, 0, zcop σ h 2 0 g 2 0 9) := by
  rw [ez_148k2]
  show (Option.bind (zev (d + 1) 273 [.inl (nI 9), .inl (nI 9)] σ) _) = _
  rw [z273, if_neg (by decide), zbs]
  show (Option.bind (zev (d + 1) 282 [.inr (.inr (h, 2)), .inl 0, .inr (.inr (g, 2)), .inl 0, .inl (nI 9)] σ) _) = _
  rw [show zev (d + 1) 282 [.inr (.inr (h, 2)), .inl 0, .inr (.inr (g, 2)), .inl 0, .inl (nI 9)] σ = some (0, 0, zcop σ h 2 0 g 2 0 9) from (zev_b (j := 282) (f := zcopy) rfl).trans rfl]
  rfl
theorem zc148_3 {d h g : Nat} {σ : zM} : zev (d + 2) 148 [.inr (.inr (h, 3)), .inr (.inr (g, 3))] σ = some (0, 0, zcop σ h 3 0 g 3 0 9) := by
  rw [ez_148k3]
  show (Option.bind (zev (d + 1) 273 [.inl (nI 9), .inl (nI 9)] σ) _) = _
  rw [z273, if_neg (by decide), zbs]
  show (Option.bind (zev (d + 1) 282 [.inr (.inr (h, 3)), .inl 0, .inr (.inr (g, 3)), .inl 0, .inl (nI 9)] σ) _) = _
  rw [show zev (d + 1) 282 [.inr (.inr (h, 3)), .inl 0, .inr (.inr (g, 3)), .inl 0, .inl (nI 9)] σ = some (0, 0, zcop σ h 3 0 g 3 0 9) from (zev_b (j := 282) (f := zcopy) rfl).trans rfl]
  rfl
theorem zc148_4 {d h g : Nat} {σ : zM} : zev (d + 2) 148 [.inr (.inr (h, 4)), .inr (.inr (g, 4))] σ = some (0, 0, zcop σ h 4 0 g 4 0 9) := by
  rw [ez_148k4]
  show (Option.bind (zev (d + 1) 273 [.inl (nI 9), .inl (nI 9)] σ) _) = _
  rw [z273, if_neg (by decide), zbs]
  show (Option.bind (zev (d + 1) 282 [.inr (.inr (h, 4)), .inl 0, .inr (.inr (g, 4)), .inl 0, .inl (nI 9)] σ) _) = _
  rw [show zev (d + 1) 282 [.inr (.inr (h, 4)), .inl 0, .inr (.inr (g, 4)), .inl 0, .inl (nI 9)] σ = some (0, 0, zcop σ h 4 0 g 4 0 9) from (zev_b (j := 282) (f := zcopy) rfl).trans rfl]
  rfl
theorem zc148_5 {d h g : Nat} {σ : zM} : zev (d + 2) 148 [.inr (.inr (h, 5)), .inr (.inr (g, 5))] σ = some (0, 0, zcop σ h 5 0 g 5 0 9) := by
  rw [ez_148k5]
  show (Option.bind (zev (d + 1) 273 [.inl (nI 9), .inl (nI 9)] σ) _) = _
  rw [z273, if_neg (by decide), zbs]
  show (Option.bind (zev (d + 1) 282 [.inr (.inr (h, 5)), .inl 0, .inr (.inr (g, 5)), .inl 0, .inl (nI 9)] σ) _) = _
  rw [show zev (d + 1) 282 [.inr (.inr (h, 5)), .inl 0, .inr (.inr (g, 5)), .inl 0, .inl (nI 9)] σ = some (0, 0, zcop σ h 5 0 g 5 0 9) from (zev_b (j := 282) (f := zcopy) rfl).trans rfl]
  rfl
theorem zc148_6 {d h g : Nat} {σ : zM} : zev (d + 2) 148 [.inr (.inr (h, 6)), .inr (.inr (g, 6))] σ = some (0, 0, zcop σ h 6 0 g 6 0 9) := by
  rw [ez_148k6]
  show (Option.bind (zev (d + 1) 273 [.inl (nI 9), .inl (nI 9)] σ) _) = _
  rw [z273, if_neg (by decide), zbs]
  show (Option.bind (zev (d + 1) 282 [.inr (.inr (h, 6)), .inl 0, .inr (.inr (g, 6)), .inl 0, .inl (nI 9)] σ) _) = _
  rw [show zev (d + 1) 282 [.inr (.inr (h, 6)), .inl 0, .inr (.inr (g, 6)), .inl 0, .inl (nI 9)] σ = some (0, 0, zcop σ h 6 0 g 6 0 9) from (zev_b (j := 282) (f := zcopy) rfl).trans rfl]
  rfl
theorem zc148_8 {d h g : Nat} {σ : zM} : zev (d + 2) 148 [.inr (.inr (h, 8)), .inr (.inr (g, 8))] σ = some (0, 0, zcop σ h 8 0 g 8 0 8) := by
  rw [ez_148k8]
  show (Option.bind (zev (d + 1) 273 [.inl (nI 8), .inl (nI 8)] σ) _) = _
  rw [z273, if_neg (by decide), zbs]
  show (Option.bind (zev (d + 1) 282 [.inr (.inr (h, 8)), .inl 0, .inr (.inr (g, 8)), .inl 0, .inl (nI 8)] σ) _) = _
  rw [show zev (d + 1) 282 [.inr (.inr (h, 8)), .inl 0, .inr (.inr (g, 8)), .inl 0, .inl (nI 8)] σ = some (0, 0, zcop σ h 8 0 g 8 0 8) from (zev_b (j := 282) (f := zcopy) rfl).trans rfl]
  rfl
theorem zc148_9 {d h g : Nat} {σ : zM} : zev (d + 2) 148 [.inr (.inr (h, 9)), .inr (.inr (g, 9))] σ = some (0, 0, zcop σ h 9 0 g 9 0 8) := by
  rw [ez_148k9]
  show (Option.bind (zev (d + 1) 273 [.inl (nI 8), .inl (nI 8)] σ) _) = _
  rw [z273, if_neg (by decide), zbs]
  show (Option.bind (zev (d + 1) 282 [.inr (.inr (h, 9)), .inl 0, .inr (.inr (g, 9)), .inl 0, .inl (nI 8)] σ) _) = _
  rw [show zev (d + 1) 282 [.inr (.inr (h, 9)), .inl 0, .inr (.inr (g, 9)), .inl 0, .inl (nI 8)] σ = some (0, 0, zcop σ h 9 0 g 9 0 8) from (zev_b (j := 282) (f := zcopy) rfl).trans rfl]
  rfl
theorem zc148_10 {d h g : Nat} {σ : zM} : zev (d + 2) 148 [.inr (.inr (h, 10)), .inr (.inr (g, 10))] σ = some (0, 0, zcop σ h 10 0 g 10 0 8) := by
  rw [ez_148k10]
  show (Option.bind (zev (d + 1) 273 [.inl (nI 8), .inl (nI 8)] σ) _) = _
  rw [z273, if_neg (by decide), zbs]
  show (Option.bind (zev (d + 1) 282 [.inr (.inr (h, 10)), .inl 0, .inr (.inr (g, 10)), .inl 0, .inl (nI 8)] σ) _) = _
  rw [show zev (d + 1) 282 [.inr (.inr (h, 10)), .inl 0, .inr (.inr (g, 10)), .inl 0, .inl (nI 8)] σ = some (0, 0, zcop σ h 10 0 g 10 0 8) from (zev_b (j := 282) (f := zcopy) rfl).trans rfl]
  rfl
theorem zc148_11 {d h g : Nat} {σ : zM} : zev (d + 2) 148 [.inr (.inr (h, 11)), .inr (.inr (g, 11))] σ = some (0, 0, zcop σ h 11 0 g 11 0 8) := by
  rw [ez_148k11]
  show (Option.bind (zev (d + 1) 273 [.inl (nI 8), .inl (nI 8)] σ) _) = _
  rw [z273, if_neg (by decide), zbs]
  show (Option.bind (zev (d + 1) 282 [.inr (.inr (h, 11)), .inl 0, .inr (.inr (g, 11)), .inl 0, .inl (nI 8)] σ) _) = _
  rw [show zev (d + 1) 282 [.inr (.inr (h, 11)), .inl 0, .inr (.inr (g, 11)), .inl 0, .inl (nI 8)] σ = some (0, 0, zcop σ h 11 0 g 11 0 8) from (zev_b (j := 282) (f := zcopy) rfl).trans rfl]
  rfl
theorem zc148_12 {d h g : Nat} {σ : zM} : zev (d + 2) 148 [.inr (.inr (h, 12)), .inr (.inr (g, 12))] σ = some (0, 0, zcop σ h 12 0 g 12 0 200) := by
  rw [ez_148k12]
  show (Option.bind (zev (d + 1) 273 [.inl (nI 200), .inl (nI 200)] σ) _) = _
  rw [z273, if_neg (by decide), zbs]
  show (Option.bind (zev (d + 1) 282 [.inr (.inr (h, 12)), .inl 0, .inr (.inr (g, 12)), .inl 0, .inl (nI 200)] σ) _) = _
  rw [show zev (d + 1) 282 [.inr (.inr (h, 12)), .inl 0, .inr (.inr (g, 12)), .inl 0, .inl (nI 200)] σ = some (0, 0, zcop σ h 12 0 g 12 0 200) from (zev_b (j := 282) (f := zcopy) rfl).trans rfl]
  rfl
theorem zc148_16 {d h g : Nat} {σ : zM} : zev (d + 2) 148 [.inr (.inr (h, 16)), .inr (.inr (g, 16))] σ = some (0, 0, zcop σ h 16 0 g 16 0 8) := by
  rw [ez_148k16]
  show (Option.bind (zev (d + 1) 273 [.inl (nI 8), .inl (nI 8)] σ) _) = _
  rw [z273, if_neg (by decide), zbs]
  show (Option.bind (zev (d + 1) 282 [.inr (.inr (h, 16)), .inl 0, .inr (.inr (g, 16)), .inl 0, .inl (nI 8)] σ) _) = _
  rw [show zev (d + 1) 282 [.inr (.inr (h, 16)), .inl 0, .inr (.inr (g, 16)), .inl 0, .inl (nI 8)] σ = some (0, 0, zcop σ h 16 0 g 16 0 8) from (zev_b (j := 282) (f := zcopy) rfl).trans rfl]
  rfl
theorem zc148_17 {d h g : Nat} {σ : zM} : zev (d + 2) 148 [.inr (.inr (h, 17)), .inr (.inr (g, 17))] σ = some (0, 0, zcop σ h 17 0 g 17 0 8) := by
  rw [ez_148k17]
  show (Option.bind (zev (d + 1) 273 [.inl (nI 8), .inl (nI 8)] σ) _) = _
  rw [z273, if_neg (by decide), zbs]
  show (Option.bind (zev (d + 1) 282 [.inr (.inr (h, 17)), .inl 0, .inr (.inr (g, 17)), .inl 0, .inl (nI 8)] σ) _) = _
  rw [show zev (d + 1) 282 [.inr (.inr (h, 17)), .inl 0, .inr (.inr (g, 17)), .inl 0, .inl (nI 8)] σ = some (0, 0, zcop σ h 17 0 g 17 0 8) from (zev_b (j := 282) (f := zcopy) rfl).trans rfl]
  rfl
theorem zc148_18 {d h g : Nat} {σ : zM} : zev (d + 2) 148 [.inr (.inr (h, 18)), .inr (.inr (g, 18))] σ = some (0, 0, zcop σ h 18 0 g 18 0 8) := by
  rw [ez_148k18]
  show (Option.bind (zev (d + 1) 273 [.inl (nI 8), .inl (nI 8)] σ) _) = _
  rw [z273, if_neg (by decide), zbs]
  show (Option.bind (zev (d + 1) 282 [.inr (.inr (h, 18)), .inl 0, .inr (.inr (g, 18)), .inl 0, .inl (nI 8)] σ) _) = _
  rw [show zev (d + 1) 282 [.inr (.inr (h, 18)), .inl 0, .inr (.inr (g, 18)), .inl 0, .inl (nI 8)] σ = some (0, 0, zcop σ h 18 0 g 18 0 8) from (zev_b (j := 282) (f := zcopy) rfl).trans rfl]
  rfl
theorem zc148_20 {d h g : Nat} {σ : zM} : zev (d + 2) 148 [.inr (.inr (h, 20)), .inr (.inr (g, 20))] σ = some (0, 0, zcop σ h 20 0 g 20 0 6) := by
  rw [ez_148k20]
  show (Option.bind (zev (d + 1) 273 [.inl (nI 6), .inl (nI 6)] σ) _) = _
  rw [z273, if_neg (by decide), zbs]
  show (Option.bind (zev (d + 1) 282 [.inr (.inr (h, 20)), .inl 0, .inr (.inr (g, 20)), .inl 0, .inl (nI 6)] σ) _) = _
  rw [show zev (d + 1) 282 [.inr (.inr (h, 20)), .inl 0, .inr (.inr (g, 20)), .inl 0, .inl (nI 6)] σ = some (0, 0, zcop σ h 20 0 g 20 0 6) from (zev_b (j := 282) (f := zcopy) rfl).trans rfl]
  rfl
theorem zc148_21 {d h g : Nat} {σ : zM} : zev (d + 2) 148 [.inr (.inr (h, 21)), .inr (.inr (g, 21))] σ = some (0, 0, zcop σ h 21 0 g 21 0 6) := by
  rw [ez_148k21]
  show (Option.bind (zev (d + 1) 273 [.inl (nI 6), .inl (nI 6)] σ) _) = _
  rw [z273, if_neg (by decide), zbs]
  show (Option.bind (zev (d + 1) 282 [.inr (.inr (h, 21)), .inl 0, .inr (.inr (g, 21)), .inl 0, .inl (nI 6)] σ) _) = _
  rw [show zev (d + 1) 282 [.inr (.inr (h, 21)), .inl 0, .inr (.inr (g, 21)), .inl 0, .inl (nI 6)] σ = some (0, 0, zcop σ h 21 0 g 21 0 6) from (zev_b (j := 282) (f := zcopy) rfl).trans rfl]
  rfl
theorem zcC_c {f c c' : Nat → Int32} : ∀ {n k : Nat} {st : List Int32}, (∀ i, k ≤ i → i < k + n → c i = c' i) → zcR f c n k st = zcR f c' n k st
  | 0, _, _, _ => rfl
  | n + 1, k, st, h => by
    show zcR f c n (k + 1) (zcS f (c k) st) = zcR f c' n (k + 1) (zcS f (c' k) st)
    rw [h k (Nat.le_refl _) (by omega)]
    exact zcC_c (fun i hi hi2 => h i (by omega) (by omega))
theorem cU_cp {g h : Nat} {S : zS} {σ τ : zM} (hU : cU h S σ) (u : wU S) (e0 : τ.1 g 7 0 = σ.1 h 7 0) (e : ∀ k, 8 ≤ k → k ≤ 11 → ∀ i, i < 8 → τ.1 g k i = σ.1 h k i) (e2 : ∀ i, i < 200 → τ.1 g 12 i = σ.1 h 12 i) : cU g S τ := by
  have u1 := u.2.1
  refine ⟨by rw [e0]; exact hU.1, fun k hk => ?_⟩
  have h2 := hU.2 k hk
  have u2 := u.2.2 k hk
  have en : ∀ j, j ≤ 8 → cEn (τ.1 g 11) j = cEn (σ.1 h 11) j := fun j hj => by
    cases j with
    | zero => rfl
    | succ j => show (τ.1 g 11 j).toNatClampNeg = (σ.1 h 11 j).toNatClampNeg; rw [e 11 (by decide) (by decide) j (by omega)]
  have h6 := h2.2.2.2.2.2.1
  rw [e 8 (by decide) (by decide) k (by omega), e 9 (by decide) (by decide) k (by omega), e 10 (by decide) (by decide) k (by omega), e 11 (by decide) (by decide) k (by omega), en k (by omega), en (k + 1) (by omega)]
  refine ⟨h2.1, h2.2.1, h2.2.2.1, h2.2.2.2.1, h2.2.2.2.2.1, h6, fun f => ?_⟩
  rw [h2.2.2.2.2.2.2 f]
  unfold zcC
  rw [zcC_c (c := τ.1 g 12) (c' := σ.1 h 12) (fun i hi hi2 => e2 i (by omega))]
theorem zc63 {d g h : Nat} {S : zS} {σ : zM} (hgh : h ≠ g) (hU : cU h S σ) (u : wU S) : ∃ τ, zev (d + 3) 63 [.inr (.inr (g, 7)), .inr (.inr (h, 7))] σ = some (0, 0, τ) ∧ zFr (fun g' k' _ => g' = g ∧ 7 ≤ k' ∧ k' ≤ 12) σ τ ∧ cU g S τ := by
  rw [ez_63]
  simp only [zc148_8, zc148_9, zc148_10, zc148_11, zc148_12, zbs]
  refine ⟨_, rfl, ⟨fun g' k' i' q => ?_, rfl⟩, cU_cp hU u ?_ ?_ ?_⟩
  · simp only [zcop_rd, zrd]
    rw [if_neg (by omega), if_neg (by omega), if_neg (by omega), if_neg (by omega), if_neg (by omega), if_neg (by omega)]
  · simp [zcop_rd, zrd]
  · intro k h8 h11 i hi
    rcases (by omega : k = 8 ∨ k = 9 ∨ k = 10 ∨ k = 11) with rfl | rfl | rfl | rfl <;> simp [zcop_rd, zrd, hgh, hi]
  · intro i hi
    simp [zcop_rd, zrd, hgh, hi]
theorem zc11 {d g h : Nat} {S : zS} {σ : zM} (hgh : h ≠ g) (w : wB S) (u : wU S) (hB : cB h S σ) (hK : cK h S σ) (hW : cW h S σ) (hU : cU h S σ) : ∃ τ, zev (d + 4) 11 [.inr (.inr (g, 1)), .inr (.inr (h, 1))] σ = some (0, 0, τ) ∧ zFr (fun g' k' _ => g' = g ∧ 1 ≤ k' ∧ k' ≤ 12) σ τ ∧ cB g S τ ∧ cK g S τ ∧ cW g S τ ∧ cU g S τ := by
  have w1 := w.2.1
  rw [ez_11]
  simp only [zc148_2, zc148_3, zc148_4, zc148_5, zc148_6, zbs]
  generalize hσ1 : zwI (zwI (zwI (zcop (zcop (zcop (zcop (zcop (zwI σ g 1 0 (σ.1 h 1 0)) h 2 0 g 2 0 9) h 3 0 g 3 0 9) h 4 0 g 4 0 9) h 5 0 g 5 0 9) h 6 0 g 6 0 9) g 1 6 _) g 1 7 _) g 1 8 _ = σ1
  have f1 : zFr (fun g' k' _ => g' = g ∧ 1 ≤ k' ∧ k' ≤ 12) σ σ1 := by
    subst hσ1
    refine ⟨fun g' k' i' q => ?_, rfl⟩
    simp only [zcop_rd, zrd]
    rw [if_neg (by omega), if_neg (by omega), if_neg (by omega), if_neg (by omega), if_neg (by omega), if_neg (by omega), if_neg (by omega), if_neg (by omega), if_neg (by omega)]
  have r1 : ∀ k, 2 ≤ k → k ≤ 6 → ∀ i, i < 9 → σ1.1 g k i = σ.1 h k i := by
    intro k a b i hi
    subst hσ1
    rcases (by omega : k = 2 ∨ k = 3 ∨ k = 4 ∨ k = 5 ∨ k = 6) with rfl | rfl | rfl | rfl | rfl <;> simp [zcop_rd, zrd, hgh, hi]
  have r2 : ∀ i, i = 0 ∨ i = 6 ∨ i = 7 ∨ i = 8 → σ1.1 g 1 i = σ.1 h 1 i := by
    intro i hi
    subst hσ1
    rcases hi with rfl | rfl | rfl | rfl <;> simp [zcop_rd, zrd, hgh]
  obtain ⟨τ, c1, c2, c3⟩ := zc63 (d := d) (g := g) hgh (cU_f hU fun k a b => zFr_f f1 (fun i q => hgh q.1)) u
  rw [c1]
  have hr1 : ∀ k, 2 ≤ k → k ≤ 6 → ∀ i, i < 9 → τ.1 g k i = σ.1 h k i := fun k a b i hi => (c2.1 g k i (by omega)).trans (r1 k a b i hi)
  have hr2 : ∀ i, i = 0 ∨ i = 6 ∨ i = 7 ∨ i = 8 → τ.1 g 1 i = σ.1 h 1 i := fun i hi => (c2.1 g 1 i (by omega)).trans (r2 i hi)
  refine ⟨τ, rfl, zFr_tt f1 (zFr_i c2 fun _ _ _ q => ⟨q.1, by omega⟩), ⟨?_, ?_⟩, ?_, ⟨?_, ?_⟩, c3⟩
  · rw [hr2 0 (by omega)]; exact hB.1
  · intro b hb
    rw [hr1 2 (by omega) (by omega) b (by omega), hr1 3 (by omega) (by omega) b (by omega), hr1 4 (by omega) (by omega) b (by omega), hr1 5 (by omega) (by omega) b (by omega), hr1 6 (by omega) (by omega) b (by omega)]
    exact hB.2 b hb
  · intro b hb
    rw [hr2 6 (by omega)]; exact hK b hb
  · rw [hr2 7 (by omega)]; exact hW.1
  · rw [hr2 8 (by omega)]; exact hW.2
theorem zc35 {d g h : Nat} {S : zS} {σ : zM} (hgh : h ≠ g) (w : wP S) (hP : cP h S σ) : ∃ τ, zev (d + 3) 35 [.inr (.inr (g, 15)), .inr (.inr (h, 15))] σ = some (0, 0, τ) ∧ zFr (fun g' k' _ => g' = g ∧ 15 ≤ k' ∧ k' ≤ 18) σ τ ∧ cP g S τ := by
  have w1 := w.2.1
  rw [ez_35]
  simp only [zc148_16, zc148_17, zc148_18, zbs]
  refine ⟨_, rfl, ⟨fun g' k' i' q => ?_, rfl⟩, ?_, fun p hp => ?_⟩
  · simp only [zcop_rd, zrd]
    rw [if_neg (by omega), if_neg (by omega), if_neg (by omega), if_neg (by omega)]
  · have e := hP.1
    simp [zcop_rd, zrd, e]
  · have hi : p < 8 := by omega
    have e := hP.2 p hp
    simp [zcop_rd, zrd, hgh, hi, e.1, e.2.1, e.2.2]
theorem zc40 {d g h : Nat} {S : zS} {σ : zM} (hgh : h ≠ g) (w : wR S) (hR : cR h S σ) : ∃ τ, zev (d + 3) 40 [.inr (.inr (g, 19)), .inr (.inr (h, 19))] σ = some (0, 0, τ) ∧ zFr (fun g' k' _ => g' = g ∧ 19 ≤ k' ∧ k' ≤ 21) σ τ ∧ cR g S τ := by
  have w1 := w.2.1
  rw [ez_40]
  simp only [zc148_20, zc148_21, zbs]
  refine ⟨_, rfl, ⟨fun g' k' i' q => ?_, rfl⟩, ?_, fun r hr => ?_⟩
  · simp only [zcop_rd, zrd]
    rw [if_neg (by omega), if_neg (by omega), if_neg (by omega)]
  · have e := hR.1
    simp [zcop_rd, zrd, e]
  · have hi : r < 6 := by omega
    have e := hR.2 r hr
    simp [zcop_rd, zrd, hgh, hi, e.1, e.2]
abbrev WG (g : Nat) : Nat → Nat → Nat → Prop := fun g' k' _ => g' = g ∧ k' ≤ 22
theorem zc25 {d g h : Nat} {S : zS} {σ : zM} (hgh : h ≠ g) (wa : wA S) (hA : cA h S σ) : ∃ τ, zev (d + 5) 25 [.inr (.inr (g, 0)), .inr (.inr (h, 0))] σ = some (0, 0, τ) ∧ zFr (WG g) σ τ ∧ cA g S τ := by
  obtain ⟨wb, ww, wp, wr, wu, wz⟩ := wa
  obtain ⟨h1, h2, h3, h4, h5, h6, h7⟩ := hA
  rw [ez_25]
  obtain ⟨τ1, a1, a2, a3, a4, a5, a6⟩ := zc11 (d := d) hgh wb wu h1 h2 h3 h6
  have n1 : ∀ k, τ1.1 h k = σ.1 h k := fun k => zFr_f a2 (fun i q => hgh q.1)
  obtain ⟨τ2, b1, b2, b3⟩ := zc35 (d := d + 1) (g := g) hgh wp (cP_f h4 fun k _ _ => n1 k)
  have n2 : ∀ k, τ2.1 h k = σ.1 h k := fun k => (zFr_f b2 (fun i q => hgh q.1)).trans (n1 k)
  obtain ⟨τ3, c1, c2, c3⟩ := zc40 (d := d + 1) (g := g) hgh wr (cR_f h5 (by rw [n2]) fun k _ _ => n2 k)
  have n3 : ∀ k, τ3.1 h k = σ.1 h k := fun k => (zFr_f c2 (fun i q => hgh q.1)).trans (n2 k)
  simp only [a1, b1, c1, zbs]
  have m2 : ∀ k, k < 15 ∨ 18 < k → τ2.1 g k = τ1.1 g k := fun k hk => zFr_f b2 (fun i q => by omega)
  have m3 : ∀ k, k < 19 → τ3.1 g k = τ2.1 g k := fun k hk => zFr_f c2 (fun i q => by omega)
  refine ⟨_, rfl, zFr_tt (zFr_tt (zFr_tt (zFr_i a2 fun _ _ _ q => ⟨q.1, by omega⟩) (zFr_i b2 fun _ _ _ q => ⟨q.1, by omega⟩)) (zFr_i c2 fun _ _ _ q => ⟨q.1, by omega⟩)) (zFr_w ⟨rfl, by omega⟩), ?_, ?_, ?_, ?_, ?_, ?_, ?_⟩
  · exact cB_f a3 fun k _ _ => by rw [zfn (by omega), m3 k (by omega), m2 k (by omega)]
  · exact cK_f a4 (by rw [zfn (by omega), m3 1 (by omega), m2 1 (by omega)])
  · exact cW_f a5 (by rw [zfn (by omega), m3 1 (by omega), m2 1 (by omega)])
  · exact cP_f b3 fun k _ _ => by rw [zfn (by omega), m3 k (by omega)]
  · exact cR_f c3 (zfe (by omega)) fun k _ _ => zfn (by omega)
  · exact cU_f a6 fun k _ _ => by rw [zfn (by omega), m3 k (by omega), m2 k (by omega)]
  · unfold cZ at h7 ⊢
    rw [zfs, n3]; exact h7
