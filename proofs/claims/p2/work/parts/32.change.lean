theorem wB_up {S : zS} {b w : Nat} {v : Int} (h : wB S) (hb : b < (S 0).toNat) (hv : (w = 0 ∧ 1 ≤ v ∧ v ≤ 5) ∨ (w = 2 ∧ 1 ≤ v ∧ v ≤ 9) ∨ (w = 3 ∧ 1 ≤ v ∧ v ≤ 999)) : wB (zup S (7 + 5 * b + w) v) := by
  obtain ⟨w0, w1, w2⟩ := h
  have e0 : zup S (7 + 5 * b + w) v 0 = S 0 := zup_n (by omega)
  refine ⟨by omega, by omega, fun c hc => ?_⟩
  have hc' : c < (S 0).toNat := by rw [e0] at hc; exact hc
  have w3 := w2 c hc'
  unfold zup
  by_cases q : c = b
  · subst q
    rcases hv with ⟨rfl, h1, h2⟩ | ⟨rfl, h1, h2⟩ | ⟨rfl, h1, h2⟩
    · rw [if_pos (by omega), if_neg (by omega), if_neg (by omega), if_neg (by omega), if_neg (by omega)]; omega
    · rw [if_neg (by omega), if_neg (by omega), if_pos (by omega), if_neg (by omega), if_neg (by omega)]; omega
    · rw [if_neg (by omega), if_neg (by omega), if_neg (by omega), if_pos (by omega), if_neg (by omega)]; omega
  · rw [if_neg (by omega), if_neg (by omega), if_neg (by omega), if_neg (by omega), if_neg (by omega)]; exact w3
theorem wA_up {S : zS} {b w : Nat} {v : Int} (h : wA S) (hb : b < (S 0).toNat) (hv : (w = 0 ∧ 1 ≤ v ∧ v ≤ 5) ∨ (w = 2 ∧ 1 ≤ v ∧ v ≤ 9) ∨ (w = 3 ∧ 1 ≤ v ∧ v ≤ 999)) : wA (zup S (7 + 5 * b + w) v) := by
  obtain ⟨wb, ww, wp, wr, wu, wz⟩ := h
  have b1 := wb.2.1
  have p1 := wp.2.1
  have e : ∀ i, (i < 7 ∨ 52 ≤ i) → zup S (7 + 5 * b + w) v i = S i := fun i hi => zup_n (by omega)
  refine ⟨wB_up wb hb hv, wW_c ww (e 4 (by omega)) (e 5 (by omega)), wP_c wp (e 2 (by omega)) (e 0 (by omega)) (fun i _ _ _ => e i (by omega)) (fun q hq => ?_), wR_c wr (e 3 (by omega)) (by rw [e 0 (by omega)]; exact Int.le_refl _) (fun i hi _ => e i (by omega)), wU_c wu (e 1 (by omega)) (fun i hi => e i (by omega)), by rw [e 6 (by omega)]; exact wz⟩
  have := wp.2.2 q hq
  rw [e _ (by omega)]
  omega
theorem cB_up {g b w : Nat} {S : zS} {σ : zM} {v : Int} (h : cB g S σ) (wb : wB S) (hb : b < (S 0).toNat) (hw : w = 0 ∨ w = 2 ∨ w = 3) : cB g (zup S (7 + 5 * b + w) v) (zwI σ g (2 + w) b (iI v)) := by
  have b1 := wb.2.1
  have e0 : zup S (7 + 5 * b + w) v 0 = S 0 := zup_n (by omega)
  refine ⟨by rw [zfe (by omega), e0]; exact h.1, fun c hc => ?_⟩
  have hc' : c < (S 0).toNat := by rw [e0] at hc; exact hc
  have h2 := h.2 c hc'
  have ep : aPar (zup S (7 + 5 * b + w) v) c = aPar S c := by unfold aPar; rw [zup_n (by omega)]
  rw [ep, zfe (g' := g) (k' := 3) (by omega), zfe (g' := g) (k' := 6) (by omega)]
  have ha : ∀ u, aAb (zup S (7 + 5 * b + w) v) c u = aAb S c u := fun u => aAb_c (fun b hb => zup_n (by omega)) wb hc'
  refine ⟨?_, h2.2.1, ?_, ?_, fun u hu => by rw [ha]; exact h2.2.2.2.2 u hu⟩
  · by_cases q : c = b ∧ w = 0
    · obtain ⟨rfl, rfl⟩ := q
      rw [zfs, show 7 + 5 * c = 7 + 5 * c + 0 by omega, zup_s]
    · rw [zfe (by omega), zup_n (by omega)]; exact h2.1
  · by_cases q : c = b ∧ w = 2
    · obtain ⟨rfl, rfl⟩ := q
      rw [zfs, show 9 + 5 * c = 7 + 5 * c + 2 by omega, zup_s]
    · rw [zfe (by omega), zup_n (by omega)]; exact h2.2.2.1
  · by_cases q : c = b ∧ w = 3
    · obtain ⟨rfl, rfl⟩ := q
      rw [zfs, show 10 + 5 * c = 7 + 5 * c + 3 by omega, zup_s]
    · rw [zfe (by omega), zup_n (by omega)]; exact h2.2.2.2.1
theorem cA_up {g b w : Nat} {S : zS} {σ : zM} {v : Int} (h : cA g S σ) (wa : wA S) (hb : b < (S 0).toNat) (hw : w = 0 ∨ w = 2 ∨ w = 3) : cA g (zup S (7 + 5 * b + w) v) (zwI σ g (2 + w) b (iI v)) := by
  obtain ⟨h1, h2, h3, h4, h5, h6, h7⟩ := h
  obtain ⟨wb, ww, wp, wr, wu, wz⟩ := wa
  have b1 := wb.2.1
  have e : ∀ i, (i < 7 ∨ 52 ≤ i) → zup S (7 + 5 * b + w) v i = S i := fun i hi => zup_n (by omega)
  refine ⟨cB_up h1 wb hb hw, ?_, ?_, ?_, ?_, ?_, ?_⟩
  · exact cK_f (cK_c h2 wb (e 0 (by omega)) fun b hb => zup_n (by omega)) (zfn (by omega))
  · exact cW_f (cW_c h3 (e 4 (by omega)) (e 5 (by omega))) (zfn (by omega))
  · exact cP_f (cP_c h4 (e 2 (by omega)) (fun i _ _ => e i (by omega)) wp) fun k _ _ => zfn (by omega)
  · exact cR_f (cR_c h5 (e 3 (by omega)) (fun i _ _ => e i (by omega)) wr) (zfe (by omega)) fun k _ _ => zfn (by omega)
  · exact cU_f (cU_c h6 (e 1 (by omega)) fun i _ => e i (by omega)) fun k _ _ => zfn (by omega)
  · unfold cZ at h7 ⊢
    rw [zfe (by omega), e 6 (by omega)]; exact h7
theorem wA_wt {S : zS} {i : Nat} {v : Int} (h : wA S) (hi : i = 4 ∨ i = 5) (hv : 0 ≤ v ∧ v ≤ 9) : wA (zup S i v) := by
  obtain ⟨wb, ww, wp, wr, wu, wz⟩ := h
  have e : ∀ j, j ≠ 4 → j ≠ 5 → zup S i v j = S j := fun j a b => zup_n (by omega)
  refine ⟨wB_c wb (e 0 (by omega) (by omega)) (fun i _ _ _ => e i (by omega) (by omega)) (fun b hb => ?_), ?_, wP_c wp (e 2 (by omega) (by omega)) (e 0 (by omega) (by omega)) (fun i _ _ _ => e i (by omega) (by omega)) (fun q hq => ?_), wR_c wr (e 3 (by omega) (by omega)) (by rw [e 0 (by omega) (by omega)]; exact Int.le_refl _) (fun i hi _ => e i (by omega) (by omega)), wU_c wu (e 1 (by omega) (by omega)) (fun i hi => e i (by omega) (by omega)), by rw [e 6 (by omega) (by omega)]; exact wz⟩
  · have := wb.2.2 b hb
    rw [e _ (by omega) (by omega)]; omega
  · obtain ⟨a1, a2, a3, a4⟩ := ww
    unfold wW zup
    rcases hi with rfl | rfl
    · rw [if_pos rfl, if_neg (by omega)]; omega
    · rw [if_neg (by omega), if_pos rfl]; omega
  · have := wp.2.2 q hq
    rw [e _ (by omega) (by omega)]; omega
theorem cA_wt {g i : Nat} {S : zS} {σ : zM} {v : Int} (h : cA g S σ) (wa : wA S) (hi : i = 4 ∨ i = 5) : cA g (zup S i v) (zwI σ g 1 (i + 3) (iI v)) := by
  obtain ⟨h1, h2, h3, h4, h5, h6, h7⟩ := h
  obtain ⟨wb, ww, wp, wr, wu, wz⟩ := wa
  have e : ∀ j, j ≠ 4 → j ≠ 5 → zup S i v j = S j := fun j a b => zup_n (by omega)
  refine ⟨?_, ?_, ?_, ?_, ?_, ?_, ?_⟩
  · exact cB_f' (cB_c h1 wb (e 0 (by omega) (by omega)) fun i _ _ _ => e i (by omega) (by omega)) (zfe (by omega)) fun k _ _ => zfn (by omega)
  · exact cK_f' (cK_c h2 wb (e 0 (by omega) (by omega)) fun b _ => e _ (by omega) (by omega)) (zfe (by omega))
  · obtain ⟨a1, a2⟩ := h3
    unfold cW zup
    rcases hi with rfl | rfl
    · rw [if_pos rfl, if_neg (by omega), zfs, zfe (by omega)]; exact ⟨rfl, a2⟩
    · rw [if_neg (by omega), if_pos rfl, zfs, zfe (by omega)]; exact ⟨a1, rfl⟩
  · exact cP_f (cP_c h4 (e 2 (by omega) (by omega)) (fun i _ _ => e i (by omega) (by omega)) wp) fun k _ _ => zfn (by omega)
  · exact cR_f (cR_c h5 (e 3 (by omega) (by omega)) (fun i _ _ => e i (by omega) (by omega)) wr) (zfe (by omega)) fun k _ _ => zfn (by omega)
  · exact cU_f (cU_c h6 (e 1 (by omega) (by omega)) fun i _ => e i (by omega) (by omega)) fun k _ _ => zfn (by omega)
  · unfold cZ at h7 ⊢
    rw [zfe (by omega), e 6 (by omega) (by omega)]; exact h7
