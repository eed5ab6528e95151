/-! trace, many, keep, again, feed -/
theorem zx_135 {x : zXx} (w : WX x) (p : Int) (hp : zrn p) : zCall 135 267 [.inl (iI p)] x := by
  have wc := w.2.2.2.2.2.1
  have hl := wc.1
  have c1 : ∀ {σ : zM}, RC x σ → zev 63 141 [.inl (iI p), .inl 0, .inl (σ.1 0 49 0 - 1)] σ = some (zB (decide (0 ≤ p ∧ p ≤ ((xa x).1 : Int) - 1)), 0, σ) := fun {σ} h => by
    rw [h.2.2.2.2.2.1, show iI ((xa x).1 : Int) - 1 = iI (((xa x).1 : Int) - 1) from iI_sub _ 1]
    exact zc141 (l := 0) hp (by decide) (by omega)
  have m1 : ∀ {σ : zM}, RM x σ → zev 63 266 [.inr (.inr (0, 60))] σ = some (iI ((xa x).1 : Int), 0, σ) := fun {σ} h => by
    rw [ez_266, h.2.2.2.2.2.1]
    have e30 : (iI ((xa x).1 : Int) < 30) = (((xa x).1 : Int) < 30) := iI_lt (b := 30) (by omega) (by decide)
    simp only [e30]
    by_cases q : ((xa x).1 : Int) < 30
    · rw [if_pos q]
    · rw [if_neg q, show ((xa x).1 : Int) = 30 by omega]; rfl
  have m2 : ∀ {σ : zM}, zev 63 149 [.inr (.inl (Int32.toInt64 (iI p))), .inr (.inl 0), .inr (.inl (Int32.toInt64 (iI ((xa x).1 : Int) - 1)))] σ = some (zB (decide (0 ≤ p ∧ p ≤ ((xa x).1 : Int) - 1)), 0, σ) := fun {σ} => by
    rw [iI_s1, zm149 hp, zt64 (by omega)]
    rw [zdec (show ((0 : Int64).toInt ≤ p ∧ p ≤ ((xa x).1 : Int) - 1) ↔ (0 ≤ p ∧ p ≤ ((xa x).1 : Int) - 1) by rw [show (0 : Int64).toInt = 0 by decide])]
  by_cases q : 0 ≤ p ∧ p ≤ ((xa x).1 : Int) - 1
  · obtain ⟨i, rfl⟩ := zint q.1
    have hi : i < (xa x).1 := by omega
    refine zCq (iI ((xa x).2 i)) w (fun σ h => ?_) (fun σ h => ?_)
    · rw [ez_135]
      simp only [c1 h, zbs, zBi, decide_eq_true q, cond_true, zgd_t (iI_ink (z := i) (k := i) rfl (show i < 30 by omega) (by decide)), iI_Nn (show i ≤ 2147483647 by omega), h.2.2.2.2.2.2 i hi]
      exact ⟨σ, rfl, zFr_r σ⟩
    · rw [ez_267]
      simp only [m1 h, m2, zbs, zBi, decide_eq_true q, cond_true, zgd_t (iI_ink (z := i) (k := i) rfl (show i < 30 by omega) (by decide)), iI_Nn (show i ≤ 2147483647 by omega), h.2.2.2.2.2.2 i hi]
      exact ⟨σ, rfl, zFr_r σ, h.1⟩
  · refine zCq (-3) w (fun σ h => ?_) (fun σ h => ?_)
    · rw [ez_135]
      simp only [c1 h, zbs, zBi, decide_eq_false q, cond_false]
      exact ⟨σ, rfl, zFr_r σ⟩
    · rw [ez_267]
      simp only [m1 h, m2, zbs, zBi, decide_eq_false q, cond_false]
      exact ⟨σ, rfl, zFr_r σ, h.1⟩
theorem zx_136 {x : zXx} (w : WX x) (c : Int) (hc : zrn c) : zCall 136 268 [.inl (iI c)] x := by
  have hl := w.2.2.2.2.2.1.1
  have c0 : (iI c = 0) = (c = 0) := iI_0 hc
  have c1 : (iI c = 1) = (c = 1) := iI_eq (b := 1) hc (by decide)
  have c2 : (iI c = 2) = (c = 2) := iI_eq (b := 2) hc (by decide)
  have c3 : (iI c = 3) = (c = 3) := iI_eq (b := 3) hc (by decide)
  have c4 : (iI c = 4) = (c = 4) := iI_eq (b := 4) hc (by decide)
  have c5 : (iI c = 5) = (c = 5) := iI_eq (b := 5) hc (by decide)
  have c6 : (iI c = 6) = (c = 6) := iI_eq (b := 6) hc (by decide)
  have m1 : ∀ {σ : zM}, RM x σ → zev 63 266 [.inr (.inr (0, 60))] σ = some (iI ((xa x).1 : Int), 0, σ) := fun {σ} h => by
    rw [ez_266, h.2.2.2.2.2.1]
    have e30 : (iI ((xa x).1 : Int) < 30) = (((xa x).1 : Int) < 30) := iI_lt (b := 30) (by omega) (by decide)
    simp only [e30]
    by_cases q : ((xa x).1 : Int) < 30
    · rw [if_pos q]
    · rw [if_neg q, show ((xa x).1 : Int) = 30 by omega]; rfl
  refine zCq (if c = 0 then iI (x.1 0) else if c = 1 then iI (x.1 1) else if c = 2 then iI (x.1 2) else if c = 3 then iI (x.1 3) else if c = 4 then iI (xr x).1 else if c = 5 then iI (xt x).1 else if c = 6 then iI (xa x).1 else -1) w (fun σ h => ?_) (fun σ h => ?_)
  · have hA := h.1
    rw [ez_136]
    simp only [c0, c1, c2, c3, c4, c5, c6, hA.1.1, hA.2.2.2.1.1, hA.2.2.2.2.1.1, hA.2.2.2.2.2.1.1, h.2.2.1.1, h.2.2.2.1.1, h.2.2.2.2.2.1]
    repeat' split
    all_goals exact ⟨σ, rfl, zFr_r σ⟩
  · rw [ez_268]
    simp only [c0, c1, c2, c3, c4, c5, c6, m1 h, zbs, h.1 0 (by decide), h.1 1 (by decide), h.1 2 (by decide), h.1 3 (by decide), h.2.2.1.1, h.2.2.2.1.1]
    repeat' split
    all_goals exact ⟨σ, rfl, zFr_r σ, h.1⟩
/-! keep, again -/
theorem RC_k {x : zXx} {σ τ : zM} (h : RC x σ) (f : zFr (fun g k i => (g = 2 ∧ k ≤ 22) ∨ (g = 0 ∧ k = 30 ∧ i = 3)) σ τ) (hh : cA 2 x.1 τ) (h3 : τ.1 0 30 3 = 1) : RC (x.1, x.1, true, x.2.2.2) τ := by
  obtain ⟨h1, h2, h3', h4, h5, h6⟩ := h
  have e : ∀ k, k ≠ 30 → τ.1 0 k = σ.1 0 k := fun k a => zFr_f f (fun i => by omega)
  exact ⟨cA_c h1 (fun k a b c d => e k (by omega)) (by rw [e 19 (by decide)]), ⟨h3, fun _ => hh⟩, cTp_f h3' (by rw [e 31 (by decide)]) (e 32 (by decide)), cRo_f h4 (by rw [e 38 (by decide)]) (fun k => zFr_f f (fun i => by omega)), cHo_f h5 (fun k a b => e k (by omega)) f.2, cAc_f h6 (by rw [e 49 (by decide)]) (e 50 (by decide))⟩
theorem RM_k {x : zXx} {σ τ : zM} (h : RM x σ) (f : zFr (fun g k i => g = 0 ∧ (k = 62 ∨ (k = 60 ∧ i = 3))) σ τ) (hh : mS 62 x.1 τ) (h3 : τ.1 0 60 3 = 1) : RM (x.1, x.1, true, x.2.2.2) τ := by
  obtain ⟨h1, h2, h3', h4, h5, h6⟩ := h
  have e : ∀ k, k ≠ 60 → k ≠ 62 → τ.1 0 k = σ.1 0 k := fun k a b => zFr_f f (fun i => by omega)
  exact ⟨mS_f h1 (e 61 (by decide) (by decide)), ⟨h3, fun _ => hh⟩, mTp_f h3' (f.1 _ _ _ (by omega)) (e 72 (by decide) (by decide)), mRo_f h4 (f.1 _ _ _ (by omega)) (e 71 (by decide) (by decide)), mHo_f h5 (fun k a b => e k (by omega) (by omega)), mAc_f h6 (f.1 _ _ _ (by omega)) (e 79 (by decide) (by decide))⟩
theorem zx_139 {x : zXx} (w : WX x) : zCall 139 269 [] x := by
  refine ⟨(x.1, x.1, true, x.2.2.2), 1, ⟨w.1, fun _ => w.1, w.2.2.1, w.2.2.2.1, w.2.2.2.2.1, w.2.2.2.2.2.1, w.2.2.2.2.2.2.1, fun _ => w.2.2.2.2.2.2.1⟩, fun σ h => ?_, fun σ h => ?_⟩
  · obtain ⟨τ, g1, g2, g3⟩ := zc25 (d := 58) (g := 2) (h := 0) (by decide) w.1 h.1
    have g1 : zev 63 25 [.inr (.inr (2, 0)), .inr (.inr (0, 0))] σ = some (0, 0, τ) := g1
    rw [ez_139]
    simp only [g1, zbs, zgd_t (show z01 1 = true from rfl)]
    exact ⟨0, _, rfl, RC_k h (zFr_tt (zFr_i g2 fun _ _ _ q => by omega) (zFr_w (by omega))) (cA_c g3 (fun k a b c d => zfn (by omega)) (zfe (by omega))) (by rw [zfs])⟩
  · have key : ∀ (m k : Nat) (τ : zM), k + m = 320 → mS 61 x.1 τ → (∀ i, i < k → τ.1 0 62 i = iI (x.1 i)) → zFr (fun g k i => g = 0 ∧ (k = 62 ∨ (k = 60 ∧ i = 3))) σ τ → ∃ υ, zrun (zev 63) zT_269 2 [some (.inr (.inr (0, 60))), some (.inl (iI k))] [] τ = some (1, 0, υ) ∧ zFr (fun g k i => g = 0 ∧ (k = 62 ∨ (k = 60 ∧ i = 3))) σ υ ∧ mS 62 x.1 υ ∧ υ.1 0 60 3 = 1 := by
      intro m
      induction m with
      | zero =>
        intro k τ hk hS h2 f
        rw [ez_269_2, if_neg (by show ¬ iI k < iI 320; rw [iI_lt (by omega) (by omega)]; omega), zgd_t (show z01 1 = true from rfl)]
        refine ⟨_, rfl, zFr_tt f (zFr_w (by omega)), fun i hi => ?_, by rw [zfs]⟩
        rw [zfe (by omega)]; exact h2 i (by omega)
      | succ m ih =>
        intro k τ hk hS h2 f
        rw [ez_269_2, if_pos (by show iI k < iI 320; rw [iI_lt (by omega) (by omega)]; omega)]
        simp only [zgd_t (iI_ink (z := k) (k := k) rfl (show k < 320 by omega) (by decide)), iI_Nn (show k ≤ 2147483647 by omega), hki1, hS k (by omega)]
        refine ih (k + 1) _ (by omega) (mS_f hS (zfn (by omega))) (fun i hi => ?_) (zFr_tt f (zFr_w (by omega)))
        by_cases q : i = k
        · subst q; rw [zfs]
        · rw [zfe (by omega)]; exact h2 i (by omega)
    obtain ⟨υ, g1, g2, g3, g4⟩ := key 320 0 σ (by omega) h.1 (fun i hi => absurd hi (Nat.not_lt_zero i)) (zFr_r σ)
    rw [ez_269]
    exact ⟨0, υ, g1, RM_k h g2 g3 g4⟩
theorem zx_140 {x : zXx} (w : WX x) : zCall 140 270 [] x := by
  cases q : x.2.2.1
  · refine zCq (-3) w (fun σ h => ?_) (fun σ h => ?_)
    · rw [ez_140, h.2.1.1, q]
      exact ⟨σ, rfl, zFr_r σ⟩
    · rw [ez_270, h.2.1.1, q]
      exact ⟨σ, rfl, zFr_r σ, h.1⟩
  · refine zCs x.2.1 (iI (x.2.1 0)) w (w.2.1 q) (w.2.2.2.2.2.2.2 q) (fun σ h => ?_) (fun σ h => ?_)
    · obtain ⟨τ, g1, g2, g3⟩ := zc25 (d := 58) (g := 0) (h := 2) (by decide) (w.2.1 q) (h.2.1.2 q)
      have g1 : zev 63 25 [.inr (.inr (0, 0)), .inr (.inr (2, 0))] σ = some (0, 0, τ) := g1
      rw [ez_140]
      simp only [h.2.1.1, q, zBi, cond_true, g1, zbs, g3.1.1]
      exact ⟨τ, rfl, zFr_i g2 fun _ _ _ q => by omega, g3⟩
    · have hK := h.2.1.2 q
      have key : ∀ (m k : Nat) (τ : zM), k + m = 320 → mS 62 x.2.1 τ → (∀ i, i < k → τ.1 0 61 i = iI (x.2.1 i)) → zFr WM σ τ → ∃ υ, zrun (zev 63) zT_270 12 [some (.inr (.inr (0, 60))), some (.inl (iI k))] [] τ = some (iI (x.2.1 0), 0, υ) ∧ zFr WM σ υ ∧ mS 61 x.2.1 υ := by
        intro m
        induction m with
        | zero =>
          intro k τ hk hS h2 f
          rw [ez_270_12, if_neg (by show ¬ iI k < iI 320; rw [iI_lt (by omega) (by omega)]; omega), h2 0 (by omega)]
          exact ⟨_, rfl, f, fun i hi => h2 i (by omega)⟩
        | succ m ih =>
          intro k τ hk hS h2 f
          rw [ez_270_12, if_pos (by show iI k < iI 320; rw [iI_lt (by omega) (by omega)]; omega)]
          simp only [zgd_t (iI_ink (z := k) (k := k) rfl (show k < 320 by omega) (by decide)), iI_Nn (show k ≤ 2147483647 by omega), hki1, hS k (by omega)]
          refine ih (k + 1) _ (by omega) (mS_f hS (zfn (by omega))) (fun i hi => ?_) (zFr_tt f (zFr_w (by omega)))
          by_cases q : i = k
          · subst q; rw [zfs]
          · rw [zfe (by omega)]; exact h2 i (by omega)
      obtain ⟨υ, g1, g2, g3⟩ := key 320 0 σ (by omega) hK (fun i hi => absurd hi (Nat.not_lt_zero i)) (zFr_r σ)
      rw [ez_270]
      simp only [h.2.1.1, q, zBi, cond_true]
      exact ⟨υ, g1, g2, g3⟩
