/-! report, forget, seed, draw, person -/
theorem wA_rp {S T : zS} (w : wA S) (h3 : wR T) (e : ∀ i, i ≠ 3 → (i < 76 ∨ 88 ≤ i) → T i = S i) : wA T := by
  obtain ⟨wb, ww, wp, wr, wu, wz⟩ := w
  have b1 := wb.2.1
  have p1 := wp.2.1
  refine ⟨wB_c wb (e 0 (by omega) (by omega)) (fun i _ _ _ => e i (by omega) (by omega)) (fun b hb => ?_), wW_c ww (e 4 (by omega) (by omega)) (e 5 (by omega) (by omega)), wP_c wp (e 2 (by omega) (by omega)) (e 0 (by omega) (by omega)) (fun i _ _ _ => e i (by omega) (by omega)) (fun q hq => ?_), h3, wU_c wu (e 1 (by omega) (by omega)) (fun i hi => e i (by omega) (by omega)), by rw [e 6 (by omega) (by omega)]; exact wz⟩
  · have := wb.2.2 b hb
    rw [e _ (by omega) (by omega)]; omega
  · have := wp.2.2 q hq
    rw [e _ (by omega) (by omega)]; omega
theorem cA_rp {g : Nat} {S T : zS} {σ τ : zM} (h : cA g S σ) (w : wA S) (hR : cR g T τ) (e : ∀ i, i ≠ 3 → (i < 76 ∨ 88 ≤ i) → T i = S i) (f : ∀ k, k < 19 → τ.1 g k = σ.1 g k) : cA g T τ := by
  obtain ⟨h1, h2, h3, h4, h5, h6, h7⟩ := h
  obtain ⟨wb, ww, wp, wr, wu, wz⟩ := w
  refine ⟨?_, ?_, ?_, ?_, hR, ?_, ?_⟩
  · exact cB_f (cB_c h1 wb (e 0 (by omega) (by omega)) fun i _ _ _ => e i (by omega) (by omega)) fun k _ _ => f k (by omega)
  · exact cK_f (cK_c h2 wb (e 0 (by omega) (by omega)) fun b hb => e _ (by omega) (by omega)) (f 1 (by decide))
  · exact cW_f (cW_c h3 (e 4 (by omega) (by omega)) (e 5 (by omega) (by omega))) (f 1 (by decide))
  · exact cP_f (cP_c h4 (e 2 (by omega) (by omega)) (fun i _ _ => e i (by omega) (by omega)) wp) fun k _ _ => f k (by omega)
  · exact cU_f (cU_c h6 (e 1 (by omega) (by omega)) fun i _ => e i (by omega) (by omega)) fun k _ _ => f k (by omega)
  · unfold cZ at h7 ⊢
    rw [f 0 (by decide), e 6 (by omega) (by omega)]; exact h7
theorem zx_116 {x : zXx} (w : WX x) : zCall 116 218 [] x := by
  have r0 := w.1.2.2.2.1.1
  have e : ∀ i, i ≠ 3 → zup x.1 3 0 i = x.1 i := fun i hi => zup_n hi
  have e3 : zup x.1 3 0 3 = 0 := zup_s
  refine zCs (zup x.1 3 0) (iI (x.1 3)) w (wA_rp w.1 ⟨by rw [e3]; omega, by rw [e3]; omega, fun r hr => by rw [e3] at hr; exact absurd hr (Nat.not_lt_zero _)⟩ fun i a _ => e i a) (wK_c w.2.2.2.2.2.2.1 w.1.1 (zup_n (by decide)) (fun i _ _ _ => zup_n (by omega))) (fun σ h => ?_) (fun σ h => ?_)
  · rw [ez_116]
    refine ⟨_, by rw [h.1.2.2.2.2.1.1], zFr_w (by omega), cA_rp h.1 w.1 ⟨by rw [zfs, e3]; rfl, fun r hr => by rw [e3] at hr; exact absurd hr (Nat.not_lt_zero _)⟩ (fun i a _ => e i a) fun k _ => zfn (by omega)⟩
  · rw [ez_218]
    exact ⟨_, by rw [h.1 3 (by decide)]; rfl, zFr_w (by omega), mS_up (v := 0) h.1⟩
theorem wA_z {S : zS} {v : Int} (w : wA S) (hv : zrn v) : wA (zup S 6 v) := by
  obtain ⟨wb, ww, wp, wr, wu, wz⟩ := w
  have b1 := wb.2.1
  have p1 := wp.2.1
  have e : ∀ i, i ≠ 6 → zup S 6 v i = S i := fun i hi => zup_n hi
  refine ⟨wB_c wb (e 0 (by omega)) (fun i _ _ _ => e i (by omega)) (fun b hb => ?_), wW_c ww (e 4 (by omega)) (e 5 (by omega)), wP_c wp (e 2 (by omega)) (e 0 (by omega)) (fun i _ _ _ => e i (by omega)) (fun q hq => ?_), wR_c wr (e 3 (by omega)) (by rw [e 0 (by omega)]; exact Int.le_refl _) (fun i _ _ => e i (by omega)), wU_c wu (e 1 (by omega)) (fun i hi => e i (by omega)), by rw [zup_s]; exact hv⟩
  · have := wb.2.2 b hb
    rw [e _ (by omega)]; omega
  · have := wp.2.2 q hq
    rw [e _ (by omega)]; omega
theorem cA_z {g : Nat} {S : zS} {σ : zM} {v : Int} (h : cA g S σ) (w : wA S) : cA g (zup S 6 v) (zwI σ g 0 3 (iI v)) := by
  obtain ⟨h1, h2, h3, h4, h5, h6, h7⟩ := h
  obtain ⟨wb, ww, wp, wr, wu, wz⟩ := w
  have e : ∀ i, i ≠ 6 → zup S 6 v i = S i := fun i hi => zup_n hi
  refine ⟨?_, ?_, ?_, ?_, ?_, ?_, ?_⟩
  · exact cB_f (cB_c h1 wb (e 0 (by omega)) fun i _ _ _ => e i (by omega)) fun k _ _ => zfn (by omega)
  · exact cK_f (cK_c h2 wb (e 0 (by omega)) fun b hb => e _ (by omega)) (zfn (by omega))
  · exact cW_f (cW_c h3 (e 4 (by omega)) (e 5 (by omega))) (zfn (by omega))
  · exact cP_f (cP_c h4 (e 2 (by omega)) (fun i _ _ => e i (by omega)) wp) fun k _ _ => zfn (by omega)
  · exact cR_f (cR_c h5 (e 3 (by omega)) (fun i _ _ => e i (by omega)) wr) (zfe (by omega)) fun k _ _ => zfn (by omega)
  · exact cU_f (cU_c h6 (e 1 (by omega)) fun i _ => e i (by omega)) fun k _ _ => zfn (by omega)
  · unfold cZ
    rw [zfs, zup_s]
theorem zx_119 {x : zXx} (w : WX x) (v : Int) (hv : zrn v) : zCall 119 223 [.inl (iI v)] x := by
  refine zCs (zup x.1 6 v) (iI (x.1 6)) w (wA_z w.1 hv) (wK_c w.2.2.2.2.2.2.1 w.1.1 (zup_n (by decide)) (fun i _ _ _ => zup_n (by omega))) (fun σ h => ?_) (fun σ h => ?_)
  · rw [ez_119]
    refine ⟨_, ?_, zFr_w (by omega), cA_z h.1 w.1⟩
    rw [show σ.1 0 0 3 = iI (x.1 6) from h.1.2.2.2.2.2.2]
  · rw [ez_223]
    exact ⟨_, by rw [h.1 6 (by decide)], zFr_w (by omega), mS_up h.1⟩
/-- a wind out of z -/
def aWz (z : Int32) : Int32 := (Int32.toUInt32 z >>> (Int32.toUInt32 16 &&& Int32.toUInt32 31)).toInt32 - (Int32.toUInt32 z >>> (Int32.toUInt32 16 &&& Int32.toUInt32 31)).toInt32 / 10 * 10
theorem aWz_r (z : Int32) : ∃ v : Int, aWz z = iI v ∧ 0 ≤ v ∧ v ≤ 9 := by
  have h : ∃ k : Nat, k < 65536 ∧ (Int32.toUInt32 z >>> (Int32.toUInt32 16 &&& Int32.toUInt32 31)).toInt32 = iI k := by
    refine ⟨(Int32.toUInt32 z >>> (Int32.toUInt32 16 &&& Int32.toUInt32 31)).toNat, ?_, ?_⟩
    · rw [UInt32.toNat_shiftRight, show (Int32.toUInt32 16 &&& Int32.toUInt32 31).toNat % 32 = 16 by decide, Nat.shiftRight_eq_div_pow]
      have := (Int32.toUInt32 z).toNat_lt
      omega
    · rw [← nI_iI]
      apply Int32.toBitVec_inj.mp
      show (Int32.toUInt32 z >>> (Int32.toUInt32 16 &&& Int32.toUInt32 31)).toBitVec = BitVec.ofNat 32 _
      exact (BitVec.ofNat_toNat _ _).symm.trans (by rfl) |>.symm ▸ (by simp)
  obtain ⟨k, hk, e⟩ := h
  have d10 : iI (k : Int) / 10 = iI ((k : Int) / 10) := by
    apply Int32.toInt_inj.mp
    rw [Int32.toInt_div_of_ne_right _ _ (by decide), t_iI (by omega), t_iI (by omega), show (10 : Int32).toInt = 10 from by decide]
    exact Int.tdiv_eq_ediv_of_nonneg (by omega)
  refine ⟨(k : Int) - (k : Int) / 10 * 10, ?_, by omega, by omega⟩
  unfold aWz
  rw [e, d10]
  show iI k - iI ((k : Int) / 10) * iI 10 = _
  rw [iI_mul, iI_sub]
def aDz (z : Int) : Int := (iI z * 1103515245 + 12345).toInt
theorem aDz_e (z : Int) : iI (aDz z) = iI z * 1103515245 + 12345 := iI_t _
def aWv (z : Int) : Int := (aWz (iI z)).toInt
theorem aWv_e (z : Int) : iI (aWv z) = aWz (iI z) := iI_t _
theorem aWv_r (z : Int) : 0 ≤ aWv z ∧ aWv z ≤ 9 := by
  obtain ⟨v, e, h⟩ := aWz_r (iI z)
  unfold aWv
  rw [e, t_iI (by omega)]
  exact h
/-- drawn -/
def aDr (S : zS) : zS := zup (zup S 6 (aDz (S 6))) 5 (aWv (aDz (S 6)))
theorem zx_120 {x : zXx} (w : WX x) : zCall 120 224 [] x := by
  have hr := aWv_r (aDz (x.1 6))
  have w1 := wA_z (v := aDz (x.1 6)) w.1 (t_rn _)
  refine zCs (aDr x.1) (iI (aWv (aDz (x.1 6)))) w (wA_wt (i := 5) w1 (Or.inr rfl) hr) (wK_c w.2.2.2.2.2.2.1 w.1.1 ((zup_n (by decide)).trans (zup_n (by decide))) (fun i _ _ _ => (zup_n (by omega)).trans (zup_n (by omega)))) (fun σ h => ?_) (fun σ h => ?_)
  · have hz : σ.1 0 0 3 = iI (x.1 6) := h.1.2.2.2.2.2.2
    have e1 : zev 63 122 [.inl (iI (x.1 6))] σ = some (iI (aDz (x.1 6)), 0, σ) := by
      rw [ez_122, aDz_e]
    have e2 : ∀ {σ : zM}, zev 63 123 [.inl (iI (aDz (x.1 6)))] σ = some (iI (aWv (aDz (x.1 6))), 0, σ) := fun {σ} => by
      rw [ez_123, aWv_e]
      rfl
    have h2 := cA_wt (i := 5) (v := aWv (aDz (x.1 6))) (cA_z (v := aDz (x.1 6)) h.1 w.1) w1 (Or.inr rfl)
    rw [ez_120]
    simp only [hz, e1, zbs, zfs, e2]
    exact ⟨_, rfl, zFr_tt (zFr_w (by omega)) (zFr_w (by omega)), h2⟩
  · have h2 := mS_up (i := 5) (v := aWv (aDz (x.1 6))) (mS_up (i := 6) (v := aDz (x.1 6)) h.1)
    rw [aWv_e, aDz_e] at h2
    have h3 : ∀ (τ : zM) (v : Int32), (zwI τ 0 61 5 v).1 0 61 5 = v := fun _ _ => zfs
    have h4 : ∀ (τ : zM) (v : Int32), (zwI τ 0 61 6 v).1 0 61 6 = v := fun _ _ => zfs
    have n6 : Int32.toNatClampNeg 6 = 6 := by decide
    rw [ez_224]
    simp only [h.1 6 (by decide), n6, h3, h4, zgd_t (show zin 6 320 = true by decide)]
    refine ⟨_, ?_, zFr_tt (zFr_w (by omega)) (zFr_w (by omega)), h2⟩
    rw [aWv_e, aDz_e]
    rfl
theorem zc41 {d n : Nat} {b c : Int32} {σ : zM} (hn : n < 6) (h : σ.1 0 19 0 = iI n) : zev (d + 1) 41 [.inr (.inr (0, 19)), .inl b, .inl c] σ = some (iI n, 0, zwI (zwI (zwI σ 0 20 n b) 0 21 n c) 0 19 0 (iI ((n + 1 : Nat) : Int))) := by
  rw [ez_41]
  have e : ∀ (k : Nat) (v : Int32), (zwI (zwI σ 0 20 n b) 0 21 n c).1 0 19 0 = iI n := fun _ _ => by rw [zfe (by omega), zfe (by omega), h]
  simp only [h, zgd_t (iI_ink (z := n) (k := n) rfl hn (by decide)), iI_Nn (show n ≤ 2147483647 by omega), e 0 0, hki1]
