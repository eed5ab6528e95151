/-! report, person, bough -/
def aRp (S : zS) (n : Nat) (b c : Int) : zS := zup (zup (zup S (76 + 2 * n) b) (77 + 2 * n) c) 3 ((n + 1 : Nat) : Int)
theorem aRp_n {S : zS} {n i : Nat} {b c : Int} (h1 : i ≠ 76 + 2 * n) (h2 : i ≠ 77 + 2 * n) (h3 : i ≠ 3) : aRp S n b c i = S i := by
  unfold aRp
  rw [zup_n h3, zup_n h2, zup_n h1]
theorem aRp_3 {S : zS} {n : Nat} {b c : Int} : aRp S n b c 3 = ((n + 1 : Nat) : Int) := zup_s
theorem aRp_b {S : zS} {n : Nat} {b c : Int} : aRp S n b c (76 + 2 * n) = b := by
  unfold aRp
  rw [zup_n (by omega), zup_n (by omega), zup_s]
theorem aRp_c {S : zS} {n : Nat} {b c : Int} : aRp S n b c (77 + 2 * n) = c := by
  unfold aRp
  rw [zup_n (by omega), zup_s]
theorem zx_115 {x : zXx} (w : WX x) (b c : Int) (hb : zrn b) (hc : zrn c) : zCall 115 217 [.inl (iI b), .inl (iI c)] x := by
  have b0 := w.1.1.1
  have b1 := w.1.1.2.1
  have wr := w.1.2.2.2.1
  have r0 := wr.1
  have r1 := wr.2.1
  have c1 : ∀ {σ : zM}, zev 63 141 [.inl (iI c), .inl 0, .inl 1] σ = some (zB (decide (0 ≤ c ∧ c ≤ 1)), 0, σ) := zc141 (l := 0) (h := 1) hc (by decide) (by decide)
  have m1 : ∀ {σ : zM}, zev 63 149 [.inr (.inl (Int32.toInt64 (iI c))), .inr (.inl 0), .inr (.inl 1)] σ = some (zB (decide (0 ≤ c ∧ c ≤ 1)), 0, σ) := zm149k (l := 0) (h := 1) hc (by decide) (by decide)
  by_cases q1 : 0 ≤ b ∧ b < x.1 0
  case neg =>
    refine zCq (-1) w (fun σ h => ?_) (fun σ h => ?_)
    · rw [ez_115]
      simp only [zc13 h.1.1.1 ⟨b0, b1⟩ hb, zbs, zBi, decide_eq_false q1, cond_false]
      exact ⟨σ, rfl, zFr_r σ⟩
    · rw [ez_217]
      simp only [zm150 (d := 61) h.1 ⟨b0, b1⟩ hb, zbs, zBi, decide_eq_false q1, cond_false]
      exact ⟨σ, rfl, zFr_r σ, h.1⟩
  case pos =>
    by_cases q2 : 0 ≤ c ∧ c ≤ 1
    case neg =>
      refine zCq (-1) w (fun σ h => ?_) (fun σ h => ?_)
      · rw [ez_115]
        simp only [zc13 h.1.1.1 ⟨b0, b1⟩ hb, c1, zbs, zBi, decide_eq_true q1, decide_eq_false q2, cond_true, cond_false]
        exact ⟨σ, rfl, zFr_r σ⟩
      · rw [ez_217]
        simp only [zm150 (d := 61) h.1 ⟨b0, b1⟩ hb, m1, zbs, zBi, decide_eq_true q1, decide_eq_false q2, cond_true, cond_false]
        exact ⟨σ, rfl, zFr_r σ, h.1⟩
    case pos =>
      obtain ⟨n, hn⟩ := zint r0
      have e6 : ∀ {z : Int}, zrn z → (iI z < 6) = (z < 6) := fun h => iI_lt (b := 6) h (by decide)
      have e6' : ∀ {z : Int}, zrn z → (iI z = 6) = (z = 6) := fun h => iI_eq (b := 6) h (by decide)
      by_cases q3 : n = 6
      · refine zCq (-2) w (fun σ h => ?_) (fun σ h => ?_)
        · rw [ez_115]
          simp only [zc13 h.1.1.1 ⟨b0, b1⟩ hb, c1, zbs, zBi, decide_eq_true q1, decide_eq_true q2, cond_true, h.1.2.2.2.2.1.1, hn, e6 (show zrn (n : Int) by omega)]
          rw [if_neg (by omega)]
          exact ⟨σ, rfl, zFr_r σ⟩
        · rw [ez_217]
          simp only [zm150 (d := 61) h.1 ⟨b0, b1⟩ hb, m1, zbs, zBi, decide_eq_true q1, decide_eq_true q2, cond_true, h.1 3 (by decide), hn, e6' (show zrn (n : Int) by omega)]
          rw [if_pos (by omega)]
          exact ⟨σ, rfl, zFr_r σ, h.1⟩
      · have hT0 : aRp x.1 n b c 0 = x.1 0 := aRp_n (by omega) (by omega) (by omega)
        have eT : ∀ i, i ≠ 3 → (i < 76 ∨ 88 ≤ i) → aRp x.1 n b c i = x.1 i := fun i a b => aRp_n (by omega) (by omega) a
        have wT : wA (aRp x.1 n b c) := by
          refine wA_rp w.1 ⟨by rw [aRp_3]; omega, by rw [aRp_3]; omega, fun r hr => ?_⟩ eT
          rw [aRp_3] at hr
          rw [hT0]
          by_cases e : r = n
          · subst e
            rw [aRp_b, aRp_c]; omega
          · have := wr.2.2 r (by omega)
            rw [aRp_n (by omega) (by omega) (by omega), aRp_n (by omega) (by omega) (by omega)]
            exact this
        refine zCs (aRp x.1 n b c) (iI n) w wT (wK_c w.2.2.2.2.2.2.1 w.1.1 (aRp_n (by omega) (by omega) (by omega)) (fun i _ _ _ => aRp_n (by omega) (by omega) (by omega))) (fun σ h => ?_) (fun σ h => ?_)
        · have h19 : σ.1 0 19 0 = iI n := by rw [← hn]; exact h.1.2.2.2.2.1.1
          rw [ez_115]
          simp only [zc13 h.1.1.1 ⟨b0, b1⟩ hb, c1, zbs, zBi, decide_eq_true q1, decide_eq_true q2, cond_true, h19, e6 (show zrn (n : Int) by omega)]
          rw [if_pos (by omega), zc41 (d := 62) (show n < 6 by omega) h19]
          refine ⟨_, rfl, zFr_tt (zFr_tt (zFr_w (by omega)) (zFr_w (by omega))) (zFr_w (by omega)), cA_rp h.1 w.1 ⟨by rw [zfs, aRp_3], fun r hr => ?_⟩ eT fun k hk => by rw [zfn (by omega), zfn (by omega), zfn (by omega)]⟩
          rw [aRp_3] at hr
          by_cases e : r = n
          · subst e
            rw [aRp_b, aRp_c, zfe (by omega), zfe (by omega), zfs, zfe (by omega), zfs]
            exact ⟨rfl, rfl⟩
          · have := h.1.2.2.2.2.1.2 r (by omega)
            rw [aRp_n (by omega) (by omega) (by omega), aRp_n (by omega) (by omega) (by omega), zfe (by omega), zfe (by omega), zfe (by omega), zfe (by omega), zfe (by omega), zfe (by omega)]
            exact this
        · have i76 : (76 : Int32) + 2 * iI n = iI ((76 + 2 * n : Nat) : Int) := by
            show iI 76 + iI 2 * iI n = _
            rw [iI_mul, iI_add]; congr 1
          have i77 : iI ((76 + 2 * n : Nat) : Int) + 1 = iI ((77 + 2 * n : Nat) : Int) := by
            rw [iI_a1]; congr 1; omega
          have h3 : ∀ (v1 v2 : Int32), (zwI (zwI σ 0 61 (76 + 2 * n) v1) 0 61 (77 + 2 * n) v2).1 0 61 3 = iI n := fun v1 v2 => by rw [zfe (by omega), zfe (by omega), h.1 3 (by decide), hn]
          have h3' : ∀ (v1 : Int32), (zwI σ 0 61 (76 + 2 * n) v1).1 0 61 3 = iI n := fun v1 => by rw [zfe (by omega), h.1 3 (by decide), hn]
          have h5 : ∀ (τ : zM) (v : Int32), (zwI τ 0 61 3 v).1 0 61 3 = v := fun _ _ => zfs
          rw [ez_217]
          simp only [zm150 (d := 61) h.1 ⟨b0, b1⟩ hb, m1, zbs, zBi, decide_eq_true q1, decide_eq_true q2, cond_true, h.1 3 (by decide), hn, e6' (show zrn (n : Int) by omega), i76, zgd_t (iI_ink (z := ((76 + 2 * n : Nat) : Int)) (k := 76 + 2 * n) rfl (show 76 + 2 * n < 320 by omega) (by decide)), iI_Nn (show 76 + 2 * n ≤ 2147483647 by omega), h3', i77, zgd_t (iI_ink (z := ((77 + 2 * n : Nat) : Int)) (k := 77 + 2 * n) rfl (show 77 + 2 * n < 320 by omega) (by decide)), iI_Nn (show 77 + 2 * n ≤ 2147483647 by omega), h3, h5, hki1]
          rw [if_neg (by omega)]
          refine ⟨_, ?_, zFr_tt (zFr_tt (zFr_w (by omega)) (zFr_w (by omega))) (zFr_w (by omega)), mS_up (mS_up (mS_up h.1))⟩
          rw [iI_s1, show ((n + 1 : Nat) : Int) - 1 = n by omega]
/-- one more of the people -/
def aPn (S : zS) (n : Nat) (a s : Int) : zS := zup (zup (zup (zup S (52 + 3 * n) a) (53 + 3 * n) s) (54 + 3 * n) 0) 2 ((n + 1 : Nat) : Int)
theorem aPn_n {S : zS} {n i : Nat} {a s : Int} (h1 : i ≠ 52 + 3 * n) (h2 : i ≠ 53 + 3 * n) (h3 : i ≠ 54 + 3 * n) (h4 : i ≠ 2) : aPn S n a s i = S i := by
  unfold aPn
  rw [zup_n h4, zup_n h3, zup_n h2, zup_n h1]
theorem aPn_2 {S : zS} {n : Nat} {a s : Int} : aPn S n a s 2 = ((n + 1 : Nat) : Int) := zup_s
theorem aPn_a {S : zS} {n : Nat} {a s : Int} : aPn S n a s (52 + 3 * n) = a := by
  unfold aPn
  rw [zup_n (by omega), zup_n (by omega), zup_n (by omega), zup_s]
theorem aPn_s {S : zS} {n : Nat} {a s : Int} : aPn S n a s (53 + 3 * n) = s := by
  unfold aPn
  rw [zup_n (by omega), zup_n (by omega), zup_s]
theorem aPn_0 {S : zS} {n : Nat} {a s : Int} : aPn S n a s (54 + 3 * n) = 0 := by
  unfold aPn
  rw [zup_n (by omega), zup_s]
theorem zc36 {d n : Nat} {a s : Int32} {σ : zM} (hn : n < 8) (h : σ.1 0 15 0 = iI n) : zev (d + 1) 36 [.inr (.inr (0, 15)), .inl a, .inl s] σ = some (iI n, 0, zwI (zwI (zwI (zwI σ 0 16 n a) 0 17 n s) 0 18 n (-9)) 0 15 0 (iI ((n + 1 : Nat) : Int))) := by
  rw [ez_36]
  have e : (zwI (zwI (zwI σ 0 16 n a) 0 17 n s) 0 18 n (-9)).1 0 15 0 = iI n := by rw [zfe (by omega), zfe (by omega), zfe (by omega), h]
  simp only [h, zgd_t (iI_ink (z := n) (k := n) rfl hn (by decide)), iI_Nn (show n ≤ 2147483647 by omega), e, hki1]
theorem zx_91 {x : zXx} (w : WX x) (a s : Int) (ha : zrn a) (hs : zrn s) : zCall 91 181 [.inl (iI a), .inl (iI s)] x := by
  obtain ⟨wb, ww, wp, wr, wu, wz⟩ := w.1
  have b0 := wb.1
  have b1 := wb.2.1
  have p0 := wp.1
  have p1 := wp.2.1
  have r1 : ∀ {σ : zM}, zev 63 141 [.inl (iI a), .inl 1, .inl 200] σ = some (zB (decide (1 ≤ a ∧ a ≤ 200)), 0, σ) := zc141 (l := 1) (h := 200) ha (by decide) (by decide)
  have m1 : ∀ {σ : zM}, zev 63 149 [.inr (.inl (Int32.toInt64 (iI a))), .inr (.inl 1), .inr (.inl 200)] σ = some (zB (decide (1 ≤ a ∧ a ≤ 200)), 0, σ) := zm149k (l := 1) (h := 200) ha (by decide) (by decide)
  have m2 : ∀ {σ : zM}, zev 63 149 [.inr (.inl (Int32.toInt64 (iI s))), .inr (.inl 0), .inr (.inl 1)] σ = some (zB (decide (0 ≤ s ∧ s ≤ 1)), 0, σ) := zm149k (l := 0) (h := 1) hs (by decide) (by decide)
  by_cases q1 : 1 ≤ a ∧ a ≤ 200
  case neg =>
    refine zCq (-1) w (fun σ h => ?_) (fun σ h => ?_)
    · rw [ez_91]
      simp only [r1, zbs, zBi, decide_eq_false q1, cond_false]
      exact ⟨σ, rfl, zFr_r σ⟩
    · rw [ez_181]
      simp only [m1, zbs, zBi, decide_eq_false q1, cond_false]
      exact ⟨σ, rfl, zFr_r σ, h.1⟩
  case pos =>
    by_cases q2 : 0 ≤ s ∧ s ≤ 1
    case neg =>
      refine zCq (-1) w (fun σ h => ?_) (fun σ h => ?_)
      · rw [ez_91]
        simp only [r1, zc143 hs, zbs, zBi, decide_eq_true q1, decide_eq_false q2, cond_true, cond_false]
        exact ⟨σ, rfl, zFr_r σ⟩
      · rw [ez_181]
        simp only [m1, m2, zbs, zBi, decide_eq_true q1, decide_eq_false q2, cond_true, cond_false]
        exact ⟨σ, rfl, zFr_r σ, h.1⟩
    case pos =>
      obtain ⟨n, hn⟩ := zint p0
      have e8 : ∀ {z : Int}, zrn z → (iI z < 8) = (z < 8) := fun h => iI_lt (b := 8) h (by decide)
      have e8' : ∀ {z : Int}, zrn z → (iI z = 8) = (z = 8) := fun h => iI_eq (b := 8) h (by decide)
      by_cases q3 : n = 8
      · refine zCq (-2) w (fun σ h => ?_) (fun σ h => ?_)
        · rw [ez_91]
          simp only [r1, zc143 hs, zbs, zBi, decide_eq_true q1, decide_eq_true q2, cond_true, h.1.2.2.2.1.1, hn, e8 (show zrn (n : Int) by omega)]
          rw [if_neg (by omega)]
          exact ⟨σ, rfl, zFr_r σ⟩
        · rw [ez_181]
          simp only [m1, m2, zbs, zBi, decide_eq_true q1, decide_eq_true q2, cond_true, h.1 2 (by decide), hn, e8' (show zrn (n : Int) by omega)]
          rw [if_pos (by omega)]
          exact ⟨σ, rfl, zFr_r σ, h.1⟩
      · have eT : ∀ i, i ≠ 2 → (i < 52 ∨ 76 ≤ i) → aPn x.1 n a s i = x.1 i := fun i c d => aPn_n (by omega) (by omega) (by omega) c
        have hT0 : aPn x.1 n a s 0 = x.1 0 := eT 0 (by omega) (by omega)
        have wT : wA (aPn x.1 n a s) := by
          refine ⟨wB_c wb hT0 (fun i _ _ _ => eT i (by omega) (by omega)) (fun b hb => ?_), wW_c ww (eT 4 (by omega) (by omega)) (eT 5 (by omega) (by omega)), ⟨by rw [aPn_2]; omega, by rw [aPn_2]; omega, fun p hp => ?_⟩, wR_c wr (eT 3 (by omega) (by omega)) (by rw [hT0]; exact Int.le_refl _) (fun i _ _ => eT i (by omega) (by omega)), wU_c wu (eT 1 (by omega) (by omega)) (fun i hi => eT i (by omega) (by omega)), by rw [eT 6 (by omega) (by omega)]; exact wz⟩
          · have := wb.2.2 b hb
            rw [eT _ (by omega) (by omega)]; omega
          · rw [aPn_2] at hp
            rw [hT0]
            by_cases e : p = n
            · subst e
              rw [aPn_a, aPn_s, aPn_0]; omega
            · have := wp.2.2 p (by omega)
              rw [aPn_n (by omega) (by omega) (by omega) (by omega), aPn_n (by omega) (by omega) (by omega) (by omega), aPn_n (by omega) (by omega) (by omega) (by omega)]
              exact this
        refine zCs (aPn x.1 n a s) (iI n) w wT (wK_c w.2.2.2.2.2.2.1 w.1.1 (aPn_n (by omega) (by omega) (by omega) (by omega)) (fun i _ _ _ => aPn_n (by omega) (by omega) (by omega) (by omega))) (fun σ h => ?_) (fun σ h => ?_)
        · have h15 : σ.1 0 15 0 = iI n := by rw [← hn]; exact h.1.2.2.2.1.1
          rw [ez_91]
          simp only [r1, zc143 hs, zbs, zBi, decide_eq_true q1, decide_eq_true q2, cond_true, h15, e8 (show zrn (n : Int) by omega)]
          rw [if_pos (by omega), zc36 (d := 62) (show n < 8 by omega) h15]
          obtain ⟨h1, h2, h3, h4, h5, h6, h7⟩ := h.1
          have f : ∀ k, k < 15 ∨ 18 < k → (zwI (zwI (zwI (zwI σ 0 16 n (iI a)) 0 17 n (iI s)) 0 18 n (-9)) 0 15 0 (iI ((n + 1 : Nat) : Int))).1 0 k = σ.1 0 k := fun k hk => by rw [zfn (by omega), zfn (by omega), zfn (by omega), zfn (by omega)]
          refine ⟨_, rfl, zFr_tt (zFr_tt (zFr_tt (zFr_w (by omega)) (zFr_w (by omega))) (zFr_w (by omega))) (zFr_w (by omega)), ?_, ?_, ?_, ⟨by rw [zfs, aPn_2], fun p hp => ?_⟩, ?_, ?_, ?_⟩
          · exact cB_f (cB_c h1 wb hT0 fun i _ _ _ => eT i (by omega) (by omega)) fun k _ _ => f k (by omega)
          · exact cK_f (cK_c h2 wb hT0 fun b hb => eT _ (by omega) (by omega)) (f 1 (by omega))
          · exact cW_f (cW_c h3 (eT 4 (by omega) (by omega)) (eT 5 (by omega) (by omega))) (f 1 (by omega))
          · rw [aPn_2] at hp
            by_cases e : p = n
            · subst e
              have hse : aSeat (aPn x.1 p a s) p = -1 := by unfold aSeat; rw [aPn_0]; rfl
              rw [aPn_a, aPn_s, hse, zfe (by omega), zfe (by omega), zfe (by omega), zfs, zfe (by omega), zfe (by omega), zfs, zfe (by omega), zfs]
              exact ⟨rfl, rfl, rfl⟩
            · have := h4.2 p (by omega)
              have hse : aSeat (aPn x.1 n a s) p = aSeat x.1 p := by unfold aSeat; rw [aPn_n (by omega) (by omega) (by omega) (by omega)]
              rw [aPn_n (by omega) (by omega) (by omega) (by omega), aPn_n (by omega) (by omega) (by omega) (by omega), hse, zfe (by omega), zfe (by omega), zfe (by omega), zfe (by omega), zfe (by omega), zfe (by omega), zfe (by omega), zfe (by omega), zfe (by omega), zfe (by omega), zfe (by omega), zfe (by omega)]
              exact this
          · exact cR_f (cR_c h5 (eT 3 (by omega) (by omega)) (fun i _ _ => eT i (by omega) (by omega)) wr) (by rw [f 19 (by omega)]) fun k _ _ => f k (by omega)
          · exact cU_f (cU_c h6 (eT 1 (by omega) (by omega)) fun i _ => eT i (by omega) (by omega)) fun k _ _ => f k (by omega)
          · unfold cZ at h7 ⊢
            rw [f 0 (by omega), eT 6 (by omega) (by omega)]; exact h7
        · have i0 : ∀ {σ : zM}, zev 63 177 [.inl (iI n), .inl 0] σ = some (iI ((52 + 3 * n + 0 : Nat) : Int), 0, σ) := zm177 (d := 62) (p := n) (w := 0)
          have i1 : ∀ {σ : zM}, zev 63 177 [.inl (iI n), .inl 1] σ = some (iI ((53 + 3 * n : Nat) : Int), 0, σ) := fun {σ} => by
            have := zm177 (d := 62) (p := n) (w := 1) (σ := σ)
            rw [show 52 + 3 * n + 1 = 53 + 3 * n by omega] at this
            exact this
          have i2 : ∀ {σ : zM}, zev 63 177 [.inl (iI n), .inl 2] σ = some (iI ((54 + 3 * n : Nat) : Int), 0, σ) := fun {σ} => by
            have := zm177 (d := 62) (p := n) (w := 2) (σ := σ)
            rw [show 52 + 3 * n + 2 = 54 + 3 * n by omega] at this
            exact this
          have h3 : ∀ (v1 v2 v3 : Int32), (zwI (zwI (zwI σ 0 61 (52 + 3 * n) v1) 0 61 (53 + 3 * n) v2) 0 61 (54 + 3 * n) v3).1 0 61 2 = iI n := fun v1 v2 v3 => by rw [zfe (by omega), zfe (by omega), zfe (by omega), h.1 2 (by decide), hn]
          rw [ez_181]
          simp only [m1, m2, zbs, zBi, decide_eq_true q1, decide_eq_true q2, cond_true, h.1 2 (by decide), hn, e8' (show zrn (n : Int) by omega), i0, i1, i2, Nat.add_zero, zgd_t (iI_ink (z := ((52 + 3 * n : Nat) : Int)) (k := 52 + 3 * n) rfl (show 52 + 3 * n < 320 by omega) (by decide)), iI_Nn (show 52 + 3 * n ≤ 2147483647 by omega), zgd_t (iI_ink (z := ((53 + 3 * n : Nat) : Int)) (k := 53 + 3 * n) rfl (show 53 + 3 * n < 320 by omega) (by decide)), iI_Nn (show 53 + 3 * n ≤ 2147483647 by omega), zgd_t (iI_ink (z := ((54 + 3 * n : Nat) : Int)) (k := 54 + 3 * n) rfl (show 54 + 3 * n < 320 by omega) (by decide)), iI_Nn (show 54 + 3 * n ≤ 2147483647 by omega), h3, hki1]
          rw [if_neg (by omega)]
          exact ⟨_, rfl, zFr_tt (zFr_tt (zFr_tt (zFr_w (by omega)) (zFr_w (by omega))) (zFr_w (by omega))) (zFr_w (by omega)), mS_up (mS_up (v := 0) (mS_up (mS_up h.1)))⟩
