/-! rules -/
theorem wA_ru {S T : zS} (w : wA S) (u : wU T) (e : ∀ i, i ≠ 1 → i < 88 → T i = S i) : wA T := by
  obtain ⟨wb, ww, wp, wr, wu, wz⟩ := w
  have b1 := wb.2.1
  have p1 := wp.2.1
  refine ⟨wB_c wb (e 0 (by decide) (by decide)) (fun i a b _ => e i (by omega) (by omega)) (fun b hb => ?_), wW_c ww (e 4 (by decide) (by decide)) (e 5 (by decide) (by decide)), wP_c wp (e 2 (by decide) (by decide)) (e 0 (by decide) (by decide)) (fun i a b _ => e i (by omega) (by omega)) (fun p hp => ?_), wR_c wr (e 3 (by decide) (by decide)) (by rw [e 0 (by decide) (by decide)]; exact Int.le_refl _) (fun i a b => e i (by omega) (by omega)), u, by rw [e 6 (by decide) (by decide)]; exact wz⟩
  · have h := wb.2.2 b hb
    rw [e (11 + 5 * b) (by omega) (by omega)]
    omega
  · have h := wp.2.2 p hp
    rw [e (54 + 3 * p) (by omega) (by omega)]
    omega
theorem cA_ru {S T : zS} {σ τ : zM} (h : cA 0 S σ) (w : wA S) (u : cU 0 T τ) (e : ∀ i, i ≠ 1 → i < 88 → T i = S i) (f : zFr (fun g k _ => g = 0 ∧ 7 ≤ k ∧ k ≤ 12) σ τ) : cA 0 T τ := by
  obtain ⟨wb, ww, wp, wr, wu, wz⟩ := w
  obtain ⟨h1, h2, h3, h4, h5, h6, h7⟩ := h
  have q : ∀ k, k < 7 ∨ 12 < k → τ.1 0 k = σ.1 0 k := fun k hk => zFr_f f (fun i => by omega)
  refine ⟨cB_c (cB_f h1 fun k a b => q k (by omega)) wb (e 0 (by decide) (by decide)) (fun i a b _ => e i (by omega) (by omega)), cK_c (cK_f h2 (q 1 (by decide))) wb (e 0 (by decide) (by decide)) (fun b hb => e _ (by omega) (by omega)), cW_c (cW_f h3 (q 1 (by decide))) (e 4 (by decide) (by decide)) (e 5 (by decide) (by decide)), cP_c (cP_f h4 fun k a b => q k (by omega)) (e 2 (by decide) (by decide)) (fun i a b => e i (by omega) (by omega)) wp, cR_c (cR_f h5 (by rw [q 19 (by decide)]) fun k a b => q k (by omega)) (e 3 (by decide) (by decide)) (fun i a b => e i (by omega) (by omega)) wr, u, ?_⟩
  unfold cZ at h7 ⊢
  rw [q 0 (by decide), e 6 (by decide) (by decide)]
  exact h7
theorem RM_y {x : zXx} {S : zS} {σ τ : zM} (h : RM x σ) (f : zFr (fun g k i => g = 0 ∧ ((k = 60 ∧ 18 ≤ i ∧ i ≤ 24) ∨ k = 61 ∨ k = 63)) σ τ) (hS : mS 61 S τ) (h18 : τ.1 0 60 18 = 0) : RM (S, (xst x (0, (xt x).2)).2) τ := by
  have hT : σ.1 0 60 18 = iI (xt x).1 := h.2.2.1.1
  have fu : zFr WM σ (zwI τ 0 60 18 (iI (xt x).1)) := ⟨fun g k i q => by
    by_cases z : g = 0 ∧ k = 60 ∧ i = 18
    · obtain ⟨rfl, rfl, rfl⟩ := z
      rw [zfs, hT]
    · rw [zfe z]
      exact f.1 g k i (by omega), f.2⟩
  have hu := RM_o (S := S) h fu (mS_f hS (zfn (by omega)))
  refine RM_t (x := (S, x.2)) (t := (0, (xt x).2)) hu ⟨fun g k i q => ?_, rfl⟩ ⟨h18, fun i hi => absurd hi (Nat.not_lt_zero i)⟩
  rw [zfe (by omega)]
theorem zx_90 {x : zXx} (w : WX x) : zCall 90 248 [] x := by
  have wt := w.2.2.1
  have wa := w.1
  have hl := wt.1
  have ts : tS (xt x) (aTs (xt x) 0) := ⟨(aTs_l (Nat.zero_le _)).2, fun q => aTs_n (Nat.zero_le _) q⟩
  have u0 : wU (zup x.1 1 0) := ⟨by rw [zup_s]; decide, by rw [zup_s]; decide, fun k hk => by rw [zup_s] at hk; exact absurd hk (Nat.not_lt_zero k)⟩
  -- both begin
  have mb : ∀ σ, RM x σ → ∃ τ, zev 64 248 [.inr (.inr (0, 60))] σ = mLp 42 τ ∧ zFr (fun g k i => g = 0 ∧ ((k = 60 ∧ 18 ≤ i ∧ i ≤ 24) ∨ k = 61 ∨ k = 63)) σ τ ∧ mOk (xt x) (aTs (xt x) 0) 0 0 (zup x.1 1 0) τ ∧ mS 63 x.1 τ := fun σ h => by
    obtain ⟨τ1, a1, a2, a3⟩ := zm153 (d := 62) h.1
    have f2 : zFr (fun g k i => g = 0 ∧ ((k = 60 ∧ 18 ≤ i ∧ i ≤ 24) ∨ k = 61 ∨ k = 63)) σ (zwI (zwI (zwI (zwI (zwI τ1 0 61 1 0) 0 60 23 0) 0 60 22 0) 0 60 20 0) 0 60 24 0) := zFr_tt (zFr_tt (zFr_tt (zFr_tt (zFr_tt (zFr_i a2 fun _ _ _ q => by omega) (zFr_w (by omega))) (zFr_w (by omega))) (zFr_w (by omega))) (zFr_w (by omega))) (zFr_w (by omega))
    have T2 : mTp (xt x) (zwI (zwI (zwI (zwI (zwI τ1 0 61 1 0) 0 60 23 0) 0 60 22 0) 0 60 20 0) 0 60 24 0) := by
      have h18 : τ1.1 0 60 18 = σ.1 0 60 18 := a2.1 _ _ _ (by omega)
      refine ⟨?_, fun i hi => ?_⟩
      · rw [zfe (by omega), zfe (by omega), zfe (by omega), zfe (by omega), zfe (by omega), h18]; exact h.2.2.1.1
      · rw [zfe (by omega), zfe (by omega), zfe (by omega), zfe (by omega), zfe (by omega), a2.1 _ _ _ (by omega)]; exact h.2.2.1.2 i hi
    obtain ⟨τ3, b1, b2, b3⟩ := zm235 (d := 59) (p := 0) wt T2 (Nat.zero_le _) (by rw [zfe (by omega), zfs]; rfl)
    have s61 : mS 61 x.1 τ1 := mS_f h.1 (zFr_f a2 (fun i => by omega))
    have s2 : mS 61 (zup x.1 1 0) (zwI τ1 0 61 1 0) := mS_w (v := 0) s61
    have r : ∀ i, ¬ (i = 19 ∨ i = 20) → τ3.1 0 60 i = (zwI (zwI (zwI (zwI (zwI τ1 0 61 1 0) 0 60 23 0) 0 60 22 0) 0 60 20 0) 0 60 24 0).1 0 60 i := fun i hi => b2.1 _ _ _ (by omega)
    refine ⟨τ3, ?_, zFr_tt f2 (zFr_i b2 fun _ _ _ q => by omega), ⟨b3, by rw [r 24 (by decide), zfs]; rfl, by rw [r 22 (by decide), zfe (by omega), zfe (by omega), zfs]; rfl, by rw [r 23 (by decide), zfe (by omega), zfe (by omega), zfe (by omega), zfs]; rfl, ?_⟩, mS_f a3 ?_⟩
    · unfold mLp
      have a1 : zev 63 153 [.inr (.inr (0, 60))] σ = some (0, 0, τ1) := a1
      have b1 : zev 63 235 [.inr (.inr (0, 60))] (zwI (zwI (zwI (zwI (zwI τ1 0 61 1 0) 0 60 23 0) 0 60 22 0) 0 60 20 0) 0 60 24 0) = some (0, 0, τ3) := b1
      rw [ez_248]
      simp only [a1, zbs]
      rw [zgd_t (by decide), b1]
      rfl
    · refine mS_f s2 ?_
      rw [zFr_f b2 (fun i => by omega), zfn (by omega), zfn (by omega), zfn (by omega), zfn (by omega)]
    · rw [zFr_f b2 (fun i => by omega), zfn (by omega), zfn (by omega), zfn (by omega), zfn (by omega), zfn (by omega)]
  have cb : ∀ σ, RC x σ → ∃ τ, zev 63 48 [.inr (.inr (0, 33)), .inr (.inr (0, 31))] σ = cLp 54 (iI (0 : Nat)) (iI (aTs (xt x) 0 : Nat)) τ ∧ zFr Wrd σ τ ∧ cAt (xt x) 0 0 0 0 [] [] τ := fun σ h => by
    have f2 : zFr Wrd σ (zwI (zwI (zwI (zwI (zwI σ 4 7 0 0) 0 33 1 0) 0 33 3 0) 0 33 4 0) 0 33 6 0) := zFr_tt (zFr_tt (zFr_tt (zFr_tt (zFr_w (by omega)) (zFr_w (by omega))) (zFr_w (by omega))) (zFr_w (by omega))) (zFr_w (by omega))
    have T := cTp_r h.2.2.1 f2
    refine ⟨_, ?_, f2, T, by rw [zfe (by omega), zfe (by omega), zfe (by omega), zfs]; rfl, by rw [zfe (by omega), zfe (by omega), zfe (by omega), zfe (by omega), zfs]; rfl, by rw [zfe (by omega), zfe (by omega), zfs]; rfl, by rw [zfe (by omega), zfs]; rfl, fun i hi => absurd hi (Nat.not_lt_zero i), by rw [zfs]; rfl, trivial⟩
    have e := cLp_b (d := 54) (b := 0) T wt (xt x).1 0 (by omega) (Nat.le_refl _)
    rw [ez_48]
    exact e
  have fin : ∀ (S' : zS) (v : Int32), wU S' → (∀ i, i ≠ 1 → i < 88 → S' i = x.1 i) → WX (S', (xst x (0, (xt x).2)).2) := fun S' v u e => ⟨wA_ru wa u e, w.2.1, ⟨Nat.zero_le _, fun i hi => absurd hi (Nat.not_lt_zero i)⟩, w.2.2.2.1, w.2.2.2.2.1, w.2.2.2.2.2.1, wK_c w.2.2.2.2.2.2.1 wa.1 (e 0 (by decide) (by decide)) (fun i a b _ => e i (by omega) (by omega)), w.2.2.2.2.2.2.2⟩
  have ct : ∀ σ τ, RC x σ → zFr Wrd σ τ → RC (xst x (0, (xt x).2)) (zwI τ 0 31 0 0) := fun σ τ h f => RC_t (RC_s h (zFr_i f fun _ _ _ q => by omega)) (zFr_w (by omega)) ⟨zfs, fun i hi => absurd hi (Nat.not_lt_zero i)⟩
  rcases lOu_i (d := 54) (K := 42) wt (xt x).1 0 (aTs (xt x) 0) 0 0 (zup x.1 1 0) (by omega) ts u0 zup_s rfl (Nat.zero_le _) (Nat.zero_le _) with ⟨S', r1, r2, r3, r4⟩ | ⟨s2, r1, r3, r4⟩
  · have e : ∀ i, i ≠ 1 → i < 88 → S' i = x.1 i := fun i a b => (r2 i a b).trans (zup_n a)
    refine ⟨(S', (xst x (0, (xt x).2)).2), iI (S' 1), fin S' 0 r1 e, fun σ h => ?_, fun σ h => ?_⟩
    · obtain ⟨τ, e1, e2, e3⟩ := cb σ h
      obtain ⟨υ, y1, y2, y3⟩ := r4 0 τ (Nat.zero_le _) e3 ⟨by rw [e3.2.2.1, zup_s]; rfl, fun k hk => by rw [zup_s] at hk; exact absurd hk (Nat.not_lt_zero k)⟩ rfl
      have hC := ct σ υ h (zFr_tt e2 y2)
      obtain ⟨φ, z1, z2, z3⟩ := zc63 (d := 60) (g := 0) (h := 4) (S := S') (σ := zwI υ 0 31 0 0) (by decide) (cU_f y3 fun k a b => zfn (by omega)) r1
      refine ⟨0, φ, ?_, RC_o (S := S') hC (zFr_i z2 fun _ _ _ q => by omega) (cA_ru hC.1 wa z3 e z2)⟩
      rw [ez_90]
      simp only [e1, y1, zbs]
      rw [if_pos (by decide), z1]
      simp only [zbs]
      rw [z3.1]
    · obtain ⟨τ, e1, e2, e3, e4⟩ := mb σ h
      obtain ⟨υ, y1, y2, y3, y4⟩ := r3 τ e3
      exact ⟨0, υ, e1.trans y1, RM_y h (zFr_tt e2 (zFr_i y2 fun _ _ _ q => by omega)) y3 y4⟩
  · refine ⟨(x.1, (xst x (0, (xt x).2)).2), iI (-100 - (s2 : Nat)), fin x.1 0 wa.2.2.2.2.1 (fun _ _ _ => rfl), fun σ h => ?_, fun σ h => ?_⟩
    · obtain ⟨τ, e1, e2, e3⟩ := cb σ h
      obtain ⟨υ, y1, y2⟩ := r4 0 τ (Nat.zero_le _) e3
      refine ⟨0, zwI υ 0 31 0 0, ?_, ct σ υ h (zFr_tt e2 y2)⟩
      rw [ez_90]
      simp only [e1, y1, zbs]
      rw [if_neg (by rw [iI_lt0 (by omega)]; omega), show (-100 : Int32) = iI (-100) by decide, iI_sub]
    · obtain ⟨τ, e1, e2, e3, e4⟩ := mb σ h
      obtain ⟨υ, y1, y2, y3, y4⟩ := r3 x.1 τ e3 e4
      exact ⟨0, υ, e1.trans y1, RM_y h (zFr_tt e2 (zFr_i y2 fun _ _ _ q => by omega)) y3 y4⟩
