def aJg (S : zS) (r : zXr) : Nat → Nat → Int → Int
  | 0, _, nx => if nx < 0 then 0 else r.1
  | m + 1, k, nx => if ¬ (0 ≤ r.2 k 0 ∧ r.2 k 0 < S 0) then (k : Int) + 1 else if 0 < k ∧ ¬ r.2 k 0 = nx then (k : Int) + 1 else if ¬ r.2 k 1 = aBear S (r.2 k 0).toNat then (k : Int) + 1 else if ¬ r.2 k 2 = aHold S (r.2 k 0).toNat then (k : Int) + 1 else aJg S r m (k + 1) (aPar S (r.2 k 0).toNat)
theorem zc47_5 {S : zS} {r : zXr} (wa : wA S) (wr : wO r) : ∀ (n k : Nat) (nx : Int) (σ : zM) (d4 : Option zV), k + n = r.1 → -1 ≤ nx ∧ nx < S 0 → cA 0 S σ → cRo r σ → ∃ τ, zrun (zev 62) zT_47 5 [some (.inr (.inr (0, 38))), some (.inr (.inr (0, 0))), some (.inl (iI (cE nx))), some (.inl (iI k)), d4] [] σ = some (iI (aJg S r n k nx), 0, τ) ∧ zFr WC σ τ := by
  have b0 := wa.1.1
  have b1 := wa.1.2.1
  have r9 := wr.1
  intro n
  induction n with
  | zero =>
    intro k nx σ d4 hk hx hA hR
    have hcz : zrn (cE nx) := by unfold cE; split <;> omega
    rw [ez_47_5, hR.1, if_neg (by rw [iI_lt (by omega) (by omega)]; omega)]
    simp only [iI_n9 hcz]
    refine ⟨σ, ?_, zFr_r σ⟩
    show _ = some (iI (if nx < 0 then 0 else r.1), 0, σ)
    by_cases q : nx < 0
    · rw [if_pos (show cE nx = -9 from if_pos q), if_pos q]; rfl
    · rw [if_neg (by rw [show cE nx = nx from if_neg q]; omega), if_neg q]
  | succ n ih =>
    intro k nx σ d4 hk hx hA hR
    have hcz : zrn (cE nx) := by unfold cE; split <;> omega
    have z0 := wr.2 k 0 (by omega) (by decide)
    have z1 := wr.2 k 1 (by omega) (by decide)
    have z2 := wr.2 k 2 (by omega) (by decide)
    have c0 := hR.2 k 0 (by omega) (by decide)
    have c1 := hR.2 k 1 (by omega) (by decide)
    have c2 := hR.2 k 2 (by omega) (by decide)
    have e : aJg S r (n + 1) k nx = if ¬ (0 ≤ r.2 k 0 ∧ r.2 k 0 < S 0) then (k : Int) + 1 else if 0 < k ∧ ¬ r.2 k 0 = nx then (k : Int) + 1 else if ¬ r.2 k 1 = aBear S (r.2 k 0).toNat then (k : Int) + 1 else if ¬ r.2 k 2 = aHold S (r.2 k 0).toNat then (k : Int) + 1 else aJg S r n (k + 1) (aPar S (r.2 k 0).toNat) := rfl
    rw [ez_47_5, hR.1, if_pos (by rw [iI_lt (by omega) (by omega)]; omega)]
    simp only [zgd_t (iI_ink (z := k) (k := k) rfl (show k < 9 by omega) (by decide)), iI_Nn (show k ≤ 2147483647 by omega), c0, zc13 (d := 61) hA.1.1 ⟨b0, b1⟩ z0, zbs, zBi, iI_0lt (show zrn (k : Int) by omega), iI_eq z0 hcz, iI_a1]
    by_cases q0 : 0 ≤ r.2 k 0 ∧ r.2 k 0 < S 0
    case neg =>
      rw [if_pos q0] at e
      rw [decide_eq_false q0, cond_false, e]
      exact ⟨σ, rfl, zFr_r σ⟩
    case pos =>
      rw [if_neg (fun z => z q0)] at e
      rw [decide_eq_true q0, cond_true]
      obtain ⟨b, hb⟩ := zint q0.1
      rw [hb] at q0 e ⊢
      rw [Int.toNat_natCast] at e
      have hbb : b < (S 0).toNat := by omega
      have w2 := wa.1.2.2 b hbb
      have h1 := aBear_b wa.1 wa.2.1 wa.2.2.1 hbb
      have h2 := aHold_b wa.1 wa.2.1 wa.2.2.2.2.1 hbb
      have t49 : ∀ d2 : Option zV, ¬ (0 < k ∧ ¬ (b : Int) = nx) → ∃ τ, zrun (zev 62) zT_47 49 [some (.inr (.inr (0, 38))), some (.inr (.inr (0, 0))), d2, some (.inl (iI k)), some (.inl (iI b))] [] σ = some (iI (aJg S r (n + 1) k nx), 0, τ) ∧ zFr WC σ τ := by
        intro d2 hq
        rw [if_neg hq] at e
        obtain ⟨τ, g1, g2⟩ := zc16 (d := 58) hA.1 hA.2.2.1 hA.2.2.2.2.2.1 wa.1 wa.2.1 wa.2.2.2.2.1 hbb
        have f : zFr WC σ τ := zFr_i g2 fun _ _ _ q => by omega
        rw [ez_47_49]
        simp only [zgd_t (iI_ink (z := k) (k := k) rfl (show k < 9 by omega) (by decide)), iI_Nn (show k ≤ 2147483647 by omega), zc26 (d := 59) hA.1 hA.2.2.1 hA.2.2.2.1 wa.1 wa.2.1 wa.2.2.1 hbb, zbs, c1, c2, iI_eq z1 (show zrn (aBear S b) by omega), g1, iI_eq z2 (show zrn (aHold S b) by omega), iI_a1]
        by_cases q1 : r.2 k 1 = aBear S b
        · rw [if_neg (fun z => z q1)] at e
          rw [if_pos q1]
          by_cases q2 : r.2 k 2 = aHold S b
          · rw [if_neg (fun z => z q2)] at e
            have hA1 : cA 0 S τ := cA_c hA (fun k a b c d => zFr_f g2 (fun i => by omega)) (g2.1 _ _ _ (by omega))
            have hR1 : cRo r τ := cRo_f hR (g2.1 _ _ _ (by omega)) (fun k => zFr_f g2 (fun i => by omega))
            rw [if_pos q2, zgd_t (iI_ink (z := b) (k := b) rfl (show b < 9 by omega) (by decide)), iI_Nn (show b ≤ 2147483647 by omega), (hA1.1.2 b hbb).2.1, e]
            obtain ⟨τ2, k1, k2⟩ := ih (k + 1) (aPar S b) τ (some (.inl (iI b))) (by omega) (by unfold aPar; omega) hA1 hR1
            exact ⟨τ2, k1, zFr_tt f k2⟩
          · rw [if_pos q2] at e
            rw [if_neg q2, e]
            exact ⟨τ, rfl, f⟩
        · rw [if_pos q1] at e
          rw [if_neg q1, e]
          exact ⟨σ, rfl, zFr_r σ⟩
      by_cases qk : 0 < k
      · rw [if_pos (by omega)]
        by_cases qn : (b : Int) = nx
        · rw [if_pos (by rw [← qn]; exact (if_neg (by omega)).symm)]
          exact t49 _ (fun z => z.2 qn)
        · rw [if_pos ⟨qk, qn⟩] at e
          rw [if_neg (by unfold cE; split <;> omega), e]
          exact ⟨σ, rfl, zFr_r σ⟩
      · rw [if_neg (by omega)]
        exact t49 _ (fun z => qk z.1)
theorem zm230_6 {S : zS} {r : zXr} {σ : zM} (wa : wA S) (wr : wO r) (hS : mS 61 S σ) (h65 : mR 65 S (aHold S) σ) (h66 : mR 66 S (aBear S) σ) (hR : mRo r σ) : ∀ (n k : Nat) (nx : Int) (d2 : Option zV), k + n = r.1 → (k = 0 ∧ nx = -1 ∨ 0 < k ∧ (0 ≤ r.2 (k - 1) 0 ∧ r.2 (k - 1) 0 < S 0) ∧ nx = aPar S (r.2 (k - 1) 0).toNat) → (n = 0 → nx < 0) → zrun (zev 63) zT_230 6 [some (.inr (.inr (0, 60))), some (.inl (iI k)), d2] [] σ = some (iI (aJg S r n k nx), 0, σ) := by
  have b0 := wa.1.1
  have b1 := wa.1.2.1
  have r9 := wr.1
  intro n
  induction n with
  | zero =>
    intro k nx d2 hk hx hn
    rw [ez_230_6, hR.1, if_neg (by rw [iI_lt (by omega) (by omega)]; omega)]
    show _ = some (iI (if nx < 0 then 0 else r.1), 0, σ)
    rw [if_pos (hn rfl)]; rfl
  | succ n ih =>
    intro k nx d2 hk hx hn
    have z0 := wr.2 k 0 (by omega) (by decide)
    have z1 := wr.2 k 1 (by omega) (by decide)
    have z2 := wr.2 k 2 (by omega) (by decide)
    have c0 := hR.2 k 0 (by omega) (by decide)
    have c1 := hR.2 k 1 (by omega) (by decide)
    have c2 := hR.2 k 2 (by omega) (by decide)
    rw [Nat.add_zero] at c0
    have e : aJg S r (n + 1) k nx = if ¬ (0 ≤ r.2 k 0 ∧ r.2 k 0 < S 0) then (k : Int) + 1 else if 0 < k ∧ ¬ r.2 k 0 = nx then (k : Int) + 1 else if ¬ r.2 k 1 = aBear S (r.2 k 0).toNat then (k : Int) + 1 else if ¬ r.2 k 2 = aHold S (r.2 k 0).toNat then (k : Int) + 1 else aJg S r n (k + 1) (aPar S (r.2 k 0).toNat) := rfl
    have i0 : (3 : Int32) * iI k = iI ((3 * k : Nat) : Int) := by
      show iI 3 * iI k = _
      rw [iI_mul]; congr 1
    have i1 : iI ((3 * k : Nat) : Int) + 1 = iI ((3 * k + 1 : Nat) : Int) := by rw [iI_a1]; congr 1
    have i2 : iI ((3 * k : Nat) : Int) + 2 = iI ((3 * k + 2 : Nat) : Int) := by
      show iI ((3 * k : Nat) : Int) + iI 2 = _
      rw [iI_add]; congr 1
    rw [ez_230_6, hR.1, if_pos (by rw [iI_lt (by omega) (by omega)]; omega)]
    simp only [i0, zgd_t (iI_ink (z := ((3 * k : Nat) : Int)) (k := 3 * k) rfl (show 3 * k < 27 by omega) (by decide)), iI_Nn (show 3 * k ≤ 2147483647 by omega), c0, zm150 (d := 61) hS ⟨b0, b1⟩ z0, zbs, zBi, iI_0lt (show zrn (k : Int) by omega), iI_a1]
    by_cases q0 : 0 ≤ r.2 k 0 ∧ r.2 k 0 < S 0
    case neg =>
      rw [if_pos q0] at e
      rw [decide_eq_false q0, cond_false, e]
    case pos =>
      rw [if_neg (fun z => z q0)] at e
      rw [decide_eq_true q0, cond_true]
      obtain ⟨b, hb⟩ := zint q0.1
      have hbb : b < (S 0).toNat := by omega
      have w2 := wa.1.2.2 b hbb
      have h1 := aBear_b wa.1 wa.2.1 wa.2.2.1 hbb
      have h2 := aHold_b wa.1 wa.2.1 wa.2.2.2.2.1 hbb
      have ih' := ih (k + 1) (aPar S b) (some (.inl (iI b))) (by omega) (Or.inr ⟨by omega, by rw [Nat.add_sub_cancel]; exact q0, by rw [Nat.add_sub_cancel, hb, Int.toNat_natCast]⟩)
      rw [hb] at q0 e ⊢
      rw [Int.toNat_natCast] at e
      have t53 : ¬ (0 < k ∧ ¬ (b : Int) = nx) → zrun (zev 63) zT_230 53 [some (.inr (.inr (0, 60))), some (.inl (iI k)), some (.inl (iI b))] [] σ = some (iI (aJg S r (n + 1) k nx), 0, σ) := by
        intro hq
        rw [if_neg hq] at e
        rw [ez_230_53]
        simp only [i0, i1, i2, zgd_t (iI_ink (z := ((3 * k + 1 : Nat) : Int)) (k := 3 * k + 1) rfl (show 3 * k + 1 < 27 by omega) (by decide)), iI_Nn (show 3 * k + 1 ≤ 2147483647 by omega), zgd_t (iI_ink (z := b) (k := b) rfl (show b < 9 by omega) (by decide)), iI_Nn (show b ≤ 2147483647 by omega), c1, h66 b hbb, iI_eq z1 (show zrn (aBear S b) by omega), zgd_t (iI_ink (z := ((3 * k + 2 : Nat) : Int)) (k := 3 * k + 2) rfl (show 3 * k + 2 < 27 by omega) (by decide)), iI_Nn (show 3 * k + 2 ≤ 2147483647 by omega), c2, h65 b hbb, iI_eq z2 (show zrn (aHold S b) by omega), hR.1, iI_s1, iI_eq (show zrn (k : Int) by omega) (show zrn ((r.1 : Int) - 1) by omega), zm158 (d := 60) hS (show b < 9 by omega), zbs, iI_lt0 (show zrn (aPar S b) by unfold aPar; omega), hki1]
        by_cases q1 : r.2 k 1 = aBear S b
        · rw [if_neg (fun z => z q1)] at e
          rw [if_pos q1]
          by_cases q2 : r.2 k 2 = aHold S b
          · rw [if_neg (fun z => z q2)] at e
            rw [if_pos q2, e]
            by_cases q3 : (k : Int) = (r.1 : Int) - 1
            · rw [if_pos q3]
              have hn0 : n = 0 := by omega
              by_cases q4 : aPar S b < 0
              · rw [if_pos q4]
                exact ih' (fun _ => q4)
              · rw [if_neg q4]
                subst hn0
                show _ = some (iI (if aPar S b < 0 then 0 else r.1), 0, σ)
                rw [if_neg q4]
                exact zsI (by omega)
            · rw [if_neg q3]
              exact ih' (fun z => by omega)
          · rw [if_pos q2] at e
            rw [if_neg q2, e]
            rfl
        · rw [if_pos q1] at e
          rw [if_neg q1, e]
          rfl
      by_cases qk : 0 < k
      · rw [if_pos (by omega)]
        rcases hx with hx | ⟨-, hx1, hx2⟩
        · omega
        · obtain ⟨c, hc⟩ := zint hx1.1
          have i3 : iI ((3 * k : Nat) : Int) - 3 = iI ((3 * (k - 1) : Nat) : Int) := by
            show iI ((3 * k : Nat) : Int) - iI 3 = _
            rw [iI_sub]; congr 1; omega
          have c3 := hR.2 (k - 1) 0 (by omega) (by decide)
          rw [Nat.add_zero, hc] at c3
          rw [hc, Int.toNat_natCast] at hx2
          have w3 := wa.1.2.2 c (by omega)
          rw [i3, zgd_t (iI_ink (z := ((3 * (k - 1) : Nat) : Int)) (k := 3 * (k - 1)) rfl (show 3 * (k - 1) < 27 by omega) (by decide)), iI_Nn (show 3 * (k - 1) ≤ 2147483647 by omega), c3, zm158 (d := 60) hS (show c < 9 by omega)]
          simp only [zbs, iI_eq (show zrn (b : Int) by omega) (show zrn (aPar S c) by unfold aPar; omega)]
          by_cases qn : (b : Int) = nx
          · rw [if_pos (by rw [← hx2]; exact qn)]
            exact t53 (fun z => z.2 qn)
          · rw [if_pos ⟨qk, qn⟩] at e
            rw [if_neg (by rw [← hx2]; exact qn), e]
      · rw [if_neg (by omega)]
        exact t53 (fun z => qk z.1)
theorem zx_127 {x : zXx} (w : WX x) : zCall 127 230 [] x := by
  have b0 := w.1.1.1
  refine zCq (iI (aJg x.1 (xr x) (xr x).1 0 (-1))) w (fun σ h => ?_) (fun σ h => ?_)
  · obtain ⟨τ, g1, g2⟩ := zc47_5 w.1 w.2.2.2.1 (xr x).1 0 (-1) σ none (Nat.zero_add _) ⟨by omega, by omega⟩ h.1 h.2.2.2.1
    have g1 : zrun (zev 62) zT_47 5 [some (.inr (.inr (0, 38))), some (.inr (.inr (0, 0))), some (.inl (-9)), some (.inl 0), none] [] σ = _ := g1
    have e : zev 63 47 [.inr (.inr (0, 38)), .inr (.inr (0, 0))] σ = some (iI (aJg x.1 (xr x) (xr x).1 0 (-1)), 0, τ) := by
      rw [ez_47]; exact g1
    rw [ez_127]
    simp only [e, zbs]
    exact ⟨τ, rfl, g2⟩
  · obtain ⟨τ, c1, c2, c3, c4, c5⟩ := zm172 (d := 56) h.1 w.1
    have hR := mRo_f h.2.2.2.1 (c2.1 _ _ _ (by omega)) (zFr_f c2 (fun i => by omega))
    have g1 := zm230_6 w.1 w.2.2.2.1 c3 c4 c5 hR (xr x).1 0 (-1) none (Nat.zero_add _) (Or.inl ⟨rfl, rfl⟩) (fun _ => by omega)
    rw [ez_230]
    simp only [c1, zbs]
    exact ⟨τ, g1, c2, c3⟩
