def aJg (S : zS) (r : zXr) : Nat → Nat → Int → Int
  | 0, _, nx => if nx < 0 then 0 else r.1
  | m + 1, k, nx => if ¬ (0 ≤ r.2 k 0 ∧ r.2 k 0 < S 0) then (k : Int) + 1 else if 0 < k ∧ ¬ r.2 k 0 = nx then (k : Int) + 1 else if ¬ r.2 k 1 = aBear S (r.2 k 0).toNat then (k : Int) + 1 else if ¬ r.2 k 2 = aHold S (r.2 k 0).toNat then (k : Int) + 1 else aJg S r m (k + 1) (aPar S (r.2 k 0).toNat)
theorem zc47_5 {S : zS} {r : zXr} (wa : wA S) (wr : wO r) : ∀ (n k : Nat) (nx : Int) (σ : zM) (d4 : Option zV), k + n = r.1 → -1 ≤ nx ∧ nx < S 0 → cA 0 S σ → cRo r σ → ∃ τ, zrun (zev 62) zT_47 5 [some (.inr (.inr (0, 38))), some (.inr (.inr (0, 0))), some (.inl (iI (cE nx))), some (.inl (iI k)), d4] [] σ = some (iI (aJg S r n k nx), 0, τ) ∧ zFr WC σ τ := by
  have b0 := wa.1.1
  have b1 := wa.1.2.1
  have r9 := wr.1
  intro n
  induction n with
  | zero =>
    intro k nx σ d4 hk hx hA hR
    have hcz : zrn (cE nx) := by unfold cE; split <;> omega
    rw [ez_47_5, hR.1, if_neg (by rw [iI_lt (by omega) (by omega)]; omega)]
    simp only [iI_n9 hcz]
    refine ⟨σ, ?_, zFr_r σ⟩
    show _ = some (iI (if nx < 0 then 0 else r.1), 0, σ)
    by_cases q : nx < 0
    · rw [if_pos (show cE nx = -9 from if_pos q), if_pos q]; rfl
    · rw [if_neg (by rw [show cE nx = nx from if_neg q]; omega), if_neg q]
  | succ n ih =>
    intro k nx σ d4 hk hx hA hR
    have hcz : zrn (cE nx) := by unfold cE; split <;> omega
    have z0 := wr.2 k 0 (by omega) (by decide)
    have z1 := wr.2 k 1 (by omega) (by decide)
    have z2 := wr.2 k 2 (by omega) (by decide)
    have c0 := hR.2 k 0 (by omega) (by decide)
    have c1 := hR.2 k 1 (by omega) (by decide)
    have c2 := hR.2 k 2 (by omega) (by decide)
    have e : aJg S r (n + 1) k nx = if ¬ (0 ≤ r.2 k 0 ∧ r.2 k 0 < S 0) then (k : Int) + 1 else if 0 < k ∧ ¬ r.2 k 0 = nx then (k : Int) + 1 else if ¬ r.2 k 1 = aBear S (r.2 k 0).toNat then (k : Int) + 1 else if ¬ r.2 k 2 = aHold S (r.2 k 0).toNat then (k : Int) + 1 else aJg S r n (k + 1) (aPar S (r.2 k 0).toNat) := rfl
    rw [ez_47_5, hR.1, if_pos (by rw [iI_lt (by omega) (by omega)]; omega)]
    simp only [zgd_t (iI_ink (z := k) (k := k) rfl (show k < 9 by omega) (by decide)), iI_Nn (show k ≤ 2147483647 by omega), c0, zc13 (d := 61) hA.1.1 ⟨b0, b1⟩ z0, zbs, zBi, iI_0lt (show zrn (k : Int) by omega), iI_eq z0 hcz, iI_a1]
    by_cases q0 : 0 ≤ r.2 k 0 ∧ r.2 k 0 < S 0
    case neg =>
      rw [if_pos q0] at e
      rw [decide_eq_false q0, cond_false, e]
      exact ⟨σ, rfl, zFr_r σ⟩
    case pos =>
      rw [if_neg (fun z => z q0)] at e
      rw [decide_eq_true q0, cond_true]
      obtain ⟨b, hb⟩ := zint q0.1
      rw [hb] at q0 e ⊢
      rw [Int.toNat_natCast] at e
      have hbb : b < (S 0).toNat := by omega
      have w2 := wa.1.2.2 b hbb
      have h1 := aBear_b wa.1 wa.2.1 wa.2.2.1 hbb
      have h2 := aHold_b wa.1 wa.2.1 wa.2.2.2.2.1 hbb
      have t49 : ∀ d2 : Option zV, ¬ (0 < k ∧ ¬ (b : Int) = nx) → ∃ τ, zrun (zev 62) zT_47 49 [some (.inr (.inr (0, 38))), some (.inr (.inr (0, 0))), d2, some (.inl (iI k)), some (.inl (iI b))] [] σ = some (iI (aJg S r (n + 1) k nx), 0, τ) ∧ zFr WC σ τ := by
        intro d2 hq
        rw [if_neg hq] at e
        obtain ⟨τ, g1, g2⟩ := zc16 (d := 58) hA.1 hA.2.2.1 hA.2.2.2.2.2.1 wa.1 wa.2.1 wa.2.2.2.2.1 hbb
        have f : zFr WC σ τ := zFr_i g2 fun _ _ _ q => by omega
        rw [ez_47_49]
        simp only [zgd_t (iI_ink (z := k) (k := k) rfl (show k < 9 by omega) (by decide)), iI_Nn (show k ≤ 2147483647 by omega), zc26 (d := 59) hA.1 hA.2.2.1 hA.2.2.2.1 wa.1 wa.2.1 wa.2.2.1 hbb, zbs, c1, c2, iI_eq z1 (show zrn (aBear S b) by omega), g1, iI_eq z2 (show zrn (aHold S b) by omega), iI_a1]
        by_cases q1 : r.2 k 1 = aBear S b
        · rw [if_neg (fun z => z q1)] at e
          rw [if_pos q1]
          by_cases q2 : r.2 k 2 = aHold S b
          · rw [if_neg (fun z => z q2)] at e
            have hA1 : cA 0 S τ := cA_c hA (fun k a b c d => zFr_f g2 (fun i => by omega)) (g2.1 _ _ _ (by omega))
            have hR1 : cRo r τ := cRo_f hR (g2.1 _ _ _ (by omega)) (fun k => zFr_f g2 (fun i => by omega))
            rw [if_pos q2, zgd_t (iI_ink (z := b) (k := b) rfl (show b < 9 by omega) (by decide)), iI_Nn (show b ≤ 2147483647 by omega), (hA1.1.2 b hbb).2.1, e]
            obtain ⟨τ2, k1, k2⟩ := ih (k + 1) (aPar S b) τ (some (.inl (iI b))) (by omega) (by unfold aPar; omega) hA1 hR1
            exact ⟨τ2, k1, zFr_tt f k2⟩
          · rw [if_pos q2] at e
            rw [if_neg q2, e]
            exact ⟨τ, rfl, f⟩
        · rw [if_pos q1] at e
          rw [if_neg q1, e]
          exact ⟨σ, rfl, zFr_r σ⟩
      by_cases qk : 0 < k
      · rw [if_pos (by omega)]
        by_cases qn : (b : Int) = nx
        · rw [if_pos (by rw [← qn]; exact (if_neg (by omega)).symm)]
          exact t49 _ (fun z => z.2 qn)
        · rw [if_pos ⟨qk, qn⟩] at e
          rw [if_neg (by unfold cE; split <;> omega), e]
          exact ⟨σ, rfl, zFr_r σ⟩
      · rw [if_neg (by omega)]
        exact t49 _ (fun z => qk z.1)
theorem zm230_6 {S : zS} {r : zXr} {σ : zM} (wa : wA S) (wr : wO r) (hS : mS 61 S σ) (h65 : mR 65 S (aHold S) σ) (h66 : mR 66 S (aBear S) σ) (hR : mRo r σ) : ∀ (n k : Nat) (nx : Int) (d2 : Option zV), k + n = r.1 → (k = 0 ∧ nx = -1 ∨ 0 < k ∧ (0 ≤ r.2 (k - 1) 0 ∧ r.2 (k - 1) 0 < S 0) ∧ nx = aPar S (r.2 (k - 1) 0).toNat) → (n = 0 → nx < 0) → zrun (zev 63) zT_230 6 [some (.inr (.inr (0, 60))), some (.inl (iI k)), d2] [] σ = some (iI (aJg S r n k nx), 0, σ) := by
  have b0 := wa.1.1
  have b1 := wa.1.2.1
  have r9 := wr.1
  intro n
  induction n with
  | zero =>
    intro k nx d2 hk hx hn
    rw [ez_230_6, hR.1, if_neg (by rw [iI_lt (by omega) (by omega)]; omega)]
    show _ = some (iI (if nx < 0 then 0 else r.1), 0, σ)
    rw [if_pos (hn rfl)]; rfl
  | succ n ih =>
    intro k nx d2 hk hx hn
    have z0 := wr.2 k 0 (by omega) (by decide)
    have z1 := wr.2 k 1 (by omega) (by decide)
    have z2 := wr.2 k 2 (by omega) (by decide)
    have c0 := hR.2 k 0 (by omega) (by decide)
    have c1 := hR.2 k 1 (by omega) (by decide)
    have c2 := hR.2 k 2 (by omega) (by decide)
    rw [Nat.add_zero] at c0
    have e : aJg S r (n + 1) k nx = if ¬ (0 ≤ r.2 k 0 ∧ r.2 k 0 < S 0) then (k : Int) + 1 else if 0 < k ∧ ¬ r.2 k 0 = nx then (k : Int) + 1 else if ¬ r.2 k 1 = aBear S (r.2 k 0).toNat then (k : Int) + 1 else if ¬ r.2 k 2 = aHold S (r.2 k 0).toNat then (k : Int) + 1 else aJg S r n (k + 1) (aPar S (r.2 k 0).toNat) := rfl
    have i0 : (3 : Int32) * iI k = iI ((3 * k : Nat) : Int) := by
      show iI 3 * iI k = _
      rw [iI_mul]; congr 1
    have i1 : iI ((3 * k : Nat) : Int) + 1 = iI ((3 * k + 1 : Nat) : Int) := by rw [iI_a1]; congr 1
    have i2 : iI ((3 * k : Nat) : Int) + 2 = iI ((3 * k + 2 : Nat) : Int) := by
      show iI ((3 * k : Nat) : Int) + iI 2 = _
      rw [iI_add]; congr 1
    rw [ez_230_6, hR.1, if_pos (by rw [iI_lt (by omega) (by omega)]; omega)]
    simp only [i0, zgd_t (iI_ink (z := ((3 * k : Nat) : Int)) (k := 3 * k) rfl (show 3 * k < 27 by omega) (by decide)), iI_Nn (show 3 * k ≤ 2147483647 by omega), c0, zm150 (d := 61) hS ⟨b0, b1⟩ z0, zbs, zBi, iI_0lt (show zrn (k : Int) by omega), iI_a1]
    by_cases q0 : 0 ≤ r.2 k 0 ∧ r.2 k 0 < S 0
    case neg =>
      rw [if_pos q0] at e
      rw [decide_eq_false q0, cond_false, e]
    case pos =>
      rw [if_neg (fun z => z q0)] at e
      rw [decide_eq_true q0, cond_true]
      obtain ⟨b, hb⟩ := zint q0.1
      have hbb : b < (S 0).toNat := by omega
      have w2 := wa.1.2.2 b hbb
      have h1 := aBear_b wa.1 wa.2.1 wa.2.2.1 hbb
      have h2 := aHold_b wa.1 wa.2.1 wa.2.2.2.2.1 hbb
      have ih' := ih (k + 1) (aPar S b) (some (.inl (iI b))) (by omega) (Or.inr ⟨by omega, by rw [Nat.add_sub_cancel]; exact q0, by rw [Nat.add_sub_cancel, hb, Int.toNat_natCast]⟩)
      rw [hb] at q0 e ⊢
      rw [Int.toNat_natCast] at e
      have t53 : ¬ (0 < k ∧ ¬ (b : Int) = nx) → zrun (zev 63) zT_230 53 [some (.inr (.inr (0, 60))), some (.inl (iI k)), some (.inl (iI b))] [] σ = some (iI (aJg S r (n + 1) k nx), 0, σ) := by
        intro hq
        rw [if_neg hq] at e
        rw [ez_230_53]
        simp only [i0, i1, i2, zgd_t (iI_ink (z := ((3 * k + 1 : Nat) : Int)) (k := 3 * k + 1) rfl (show 3 * k + 1 < 27 by omega) (by decide)), iI_Nn (show 3 * k + 1 ≤ 2147483647 by omega), zgd_t (iI_ink (z := b) (k := b) rfl (show b < 9 by omega) (by decide)), iI_Nn (show b ≤ 2147483647 by omega), c1, h66 b hbb, iI_eq z1 (show zrn (aBear S b) by omega), zgd_t (iI_ink (z := ((3 * k + 2 : Nat) : Int)) (k := 3 * k + 2) rfl (show 3 * k + 2 < 27 by omega) (by decide)), iI_Nn (show 3 * k + 2 ≤ 2147483647 by omega), c2, h65 b hbb, iI_eq z2 (show zrn (aHold S b) by omega), hR.1, iI_s1, iI_eq (show zrn (k : Int) by omega) (show zrn ((r.1 : Int) - 1) by omega), zm158 (d := 60) hS (show b < 9 by omega), zbs, iI_lt0 (show zrn (aPar S b) by unfold aPar; omega), hki1]
        by_cases q1 : r.2 k 1 = aBear S b
        · rw [if_neg (fun z => z q1)] at e
          rw [if_pos q1]
          by_cases q2 : r.2 k 2 = aHold S b
          · rw [if_neg (fun z => z q2)] at e
            rw [if_pos q2, e]
            by_cases q3 : (k : Int) = (r.1 : Int) - 1
            · rw [if_pos q3]
              have hn0 : n = 0 := by omega
              by_cases q4 : aPar S b < 0
              · rw [if_pos q4]
                exact ih' (fun _ => q4)
              · rw [if_neg q4]
                subst hn0
                show _ = some (iI (if aPar S b < 0 then 0 else r.1), 0, σ)
                rw [if_neg q4]
                exact zsI (by omega)
            · rw [if_neg q3]
              exact ih' (fun z => by omega)
          · rw [if_pos q2] at e
            rw [if_neg q2, e]
            rfl
        · rw [if_pos q1] at e
          rw [if_neg q1, e]
          rfl
      by_cases qk : 0 < k
      · rw [if_pos (by omega)]
        rcases hx with hx | ⟨-, hx1, hx2⟩
        · omega
        · obtain ⟨c, hc⟩ := zint hx1.1
          have i3 : iI ((3 * k : Nat) : Int) - 3 = iI ((3 * (k - 1) : Nat) : Int) := by
            show iI ((3 * k : Nat) : Int) - iI 3 = _
            rw [iI_sub]; congr 1; omega
          have c3 := hR.2 (k - 1) 0 (by omega) (by decide)
          rw [Nat.add_zero, hc] at c3
          rw [hc, Int.toNat_natCast] at hx2
          have w3 := wa.1.2.2 c (by omega)
          rw [i3, zgd_t (iI_ink (z := ((3 * (k - 1) : Nat) : Int)) (k := 3 * (k - 1)) rfl (show 3 * (k - 1) < 27 by omega) (by decide)), iI_Nn (show 3 * (k - 1) ≤ 2147483647 by omega), c3, zm158 (d := 60) hS (show c < 9 by omega)]
          simp only [zbs, iI_eq (show zrn (b : Int) by omega) (show zrn (aPar S c) by unfold aPar; omega)]
          by_cases qn : (b : Int) = nx
          · rw [if_pos (by rw [← hx2]; exact qn)]
            exact t53 (fun z => z.2 qn)
          · rw [if_pos ⟨qk, qn⟩] at e
            rw [if_neg (by rw [← hx2]; exact qn), e]
      · rw [if_neg (by omega)]
        exact t53 (fun z => qk z.1)
theorem zx_127 {x : zXx} (w : WX x) : zCall 127 230 [] x := by
  have b0 := w.1.1.1
  refine zCq (iI (aJg x.1 (xr x) (xr x).1 0 (-1))) w (fun σ h => ?_) (fun σ h => ?_)
  · obtain ⟨τ, g1, g2⟩ := zc47_5 w.1 w.2.2.2.1 (xr x).1 0 (-1) σ none (Nat.zero_add _) ⟨by omega, by omega⟩ h.1 h.2.2.2.1
    have g1 : zrun (zev 62) zT_47 5 [some (.inr (.inr (0, 38))), some (.inr (.inr (0, 0))), some (.inl (-9)), some (.inl 0), none] [] σ = _ := g1
    have e : zev 63 47 [.inr (.inr (0, 38)), .inr (.inr (0, 0))] σ = some (iI (aJg x.1 (xr x) (xr x).1 0 (-1)), 0, τ) := by
      rw [ez_47]; exact g1
    rw [ez_127]
    simp only [e, zbs]
    exact ⟨τ, rfl, g2⟩
  · obtain ⟨τ, c1, c2, c3, c4, c5⟩ := zm172 (d := 56) h.1 w.1
    have hR := mRo_f h.2.2.2.1 (c2.1 _ _ _ (by omega)) (zFr_f c2 (fun i => by omega))
    have g1 := zm230_6 w.1 w.2.2.2.1 c3 c4 c5 hR (xr x).1 0 (-1) none (Nat.zero_add _) (Or.inl ⟨rfl, rfl⟩) (fun _ => by omega)
    rw [ez_230]
    simp only [c1, zbs]
    exact ⟨τ, g1, c2, c3⟩
def xsh (x : zXx) (h : zXh) : zXx := (x.1, x.2.1, x.2.2.1, x.2.2.2.1, x.2.2.2.2.1, h, x.2.2.2.2.2.2)
theorem RC_h {x : zXx} {h' : zXh} {σ τ : zM} (h : RC x σ) (e : ∀ g k, ¬ (g = 0 ∧ 42 ≤ k ∧ k ≤ 48) → τ.1 g k = σ.1 g k) (hh : cHo h' τ) : RC (xsh x h') τ := by
  obtain ⟨h1, h2, h3, h4, h5, h6⟩ := h
  exact ⟨cA_c h1 (fun k a b c d => e 0 k (by omega)) (by rw [e 0 19 (by omega)]), cKe_f (x := x) h2 (by rw [e 0 30 (by omega)]) (fun k hk => e 2 k (by omega)), cTp_f h3 (by rw [e 0 31 (by omega)]) (e 0 32 (by omega)), cRo_f h4 (by rw [e 0 38 (by omega)]) (fun k => e k 40 (by omega)), hh, cAc_f h6 (by rw [e 0 49 (by omega)]) (e 0 50 (by omega))⟩
theorem RM_h {x : zXx} {h' : zXh} {σ τ : zM} (h : RM x σ) (e : ∀ k, ¬ (73 ≤ k ∧ k ≤ 78) → τ.1 0 k = σ.1 0 k) (hh : mHo h' τ) : RM (xsh x h') τ := by
  obtain ⟨h1, h2, h3, h4, h5, h6⟩ := h
  exact ⟨mS_f h1 (e 61 (by omega)), mKe_f (x := x) h2 (by rw [e 60 (by omega)]) (e 62 (by omega)), mTp_f h3 (by rw [e 60 (by omega)]) (e 72 (by omega)), mRo_f h4 (by rw [e 60 (by omega)]) (e 71 (by omega)), hh, mAc_f h6 (by rw [e 60 (by omega)]) (e 79 (by omega))⟩
theorem zc144 {d : Nat} {z : Int} {σ : zM} (hz : zrn z) : zev (d + 2) 144 [.inl (iI z)] σ = some (zB (decide (0 ≤ z ∧ z ≤ 3)), 0, σ) := by
  have e : zev (d + 1) 141 [.inl (iI z), .inl 0, .inl 3] σ = some (zB (decide (0 ≤ z ∧ z ≤ 3)), 0, σ) := zc141 (l := 0) (h := 3) hz (by decide) (by decide)
  rw [ez_144]
  simp only [e, zbs]
  exact zB_g
theorem zm249 {d : Nat} {z : Int} {σ : zM} (hz : zrn z) : zev (d + 2) 249 [.inl (iI z)] σ = some (zB (decide (0 ≤ z ∧ z ≤ 3)), 0, σ) := by
  have e : zev (d + 1) 149 [.inr (.inl (Int32.toInt64 (iI z))), .inr (.inl 0), .inr (.inl 3)] σ = some (zB (decide (0 ≤ z ∧ z ≤ 3)), 0, σ) := zm149k (l := 0) (h := 3) hz (by decide) (by decide)
  rw [ez_249]
  simp only [e, zbs]
  exact zB_g
theorem lI_0 : lI 0 = 0 := rfl
theorem zc17_17 {C : zC} {a : Nat} (ha : a < 4) : ∀ (n k : Nat) (σ : zM) (d2 d3 : Option zV), k + n = 40 → (∀ i, i < k → σ.2 a 45 i = 0) → ∃ τ, zrun C zT_17 17 [some (.inr (.inr (0, 41))), some (.inl (iI a)), d2, d3, some (.inl (iI k))] [] σ = some (0, 0, τ) ∧ τ.1 = σ.1 ∧ (∀ i, i < 40 → τ.2 a 45 i = 0) ∧ ∀ g i, g ≠ a → τ.2 g 45 i = σ.2 g 45 i
  | 0, k, σ, d2, d3, hk, hs => by
    rw [ez_17_17, if_neg (by show ¬ iI k < iI 40; rw [iI_lt (by omega) (by omega)]; omega)]
    exact ⟨σ, rfl, rfl, fun i hi => hs i (by omega), fun _ _ _ => rfl⟩
  | n + 1, k, σ, d2, d3, hk, hs => by
    rw [ez_17_17, if_pos (by show iI k < iI 40; rw [iI_lt (by omega) (by omega)]; omega)]
    simp only [zgd_t (iI_ink (z := a) (k := a) rfl ha (by decide)), iI_Nn (show a ≤ 2147483647 by omega), zgd_t (iI_ink (z := k) (k := k) rfl (show k < 40 by omega) (by decide)), iI_Nn (show k ≤ 2147483647 by omega), hki1]
    obtain ⟨τ, g1, g2, g3, g4⟩ := zc17_17 (C := C) ha n (k + 1) (zwL σ a 45 k 0) none none (by omega) (fun i hi => by
      rw [zrdL]
      split
      · rfl
      · exact hs i (by omega))
    refine ⟨τ, g1, g2, g3, fun g i hg => ?_⟩
    rw [g4 g i hg, zrdL, if_neg (fun z => hg z.1)]
theorem zm250_69 {C : zC} {a : Nat} (ha : a < 4) : ∀ (n k : Nat) (σ : zM) (d2 d3 : Option zV), k + n = 40 → (∀ i, i < k → σ.1 0 75 (40 * a + i) = 0) → ∃ τ, zrun C zT_250 69 [some (.inr (.inr (0, 60))), some (.inl (iI a)), d2, d3, some (.inl (iI k))] [] σ = some (1, 0, τ) ∧ (∀ k', k' ≠ 75 → τ.1 0 k' = σ.1 0 k') ∧ (∀ i, i < 40 → τ.1 0 75 (40 * a + i) = 0) ∧ ∀ i, i < 40 * a ∨ 40 * a + 40 ≤ i → τ.1 0 75 i = σ.1 0 75 i
  | 0, k, σ, d2, d3, hk, hs => by
    rw [ez_250_69, if_neg (by show ¬ iI k < iI 40; rw [iI_lt (by omega) (by omega)]; omega)]
    exact ⟨σ, rfl, fun _ _ => rfl, fun i hi => hs i (by omega), fun _ _ => rfl⟩
  | n + 1, k, σ, d2, d3, hk, hs => by
    have i0 : (40 : Int32) * iI a + iI k = iI ((40 * a + k : Nat) : Int) := by
      show iI 40 * iI a + iI k = _
      rw [iI_mul, iI_add]; congr 1
    rw [ez_250_69, if_pos (by show iI k < iI 40; rw [iI_lt (by omega) (by omega)]; omega), i0]
    simp only [zgd_t (iI_ink (z := ((40 * a + k : Nat) : Int)) (k := 40 * a + k) rfl (show 40 * a + k < 160 by omega) (by decide)), iI_Nn (show 40 * a + k ≤ 2147483647 by omega), hki1]
    obtain ⟨τ, g1, g2, g3, g4⟩ := zm250_69 (C := C) ha n (k + 1) (zwI σ 0 75 (40 * a + k) 0) none none (by omega) (fun i hi => by
      by_cases q : i = k
      · subst q; exact zfs
      · rw [zfe (by omega)]; exact hs i (by omega))
    refine ⟨τ, g1, fun k' hk' => by rw [g2 k' hk', zfn (by omega)], g3, fun i hi => ?_⟩
    rw [g4 i hi, zfe (by omega)]
def aSh (h : zXh) (a : Nat) (s n : Int) : zXh := (fun j => if j = a then s else h.1 j, fun j => if j = a then n else h.2.1 j, fun j i => if j = a then 0 else h.2.2.1 j i, h.2.2.2)
theorem wH_sh {h : zXh} {a : Nat} {s n : Int} (w : wH h) (hs : -1 ≤ s ∧ s ≤ 4) (hn : 0 ≤ n ∧ n ≤ 40) : wH (aSh h a s n) := by
  intro j hj
  obtain ⟨w1, w2, w3, w4, w5, w6, w7, w8, w9, w10⟩ := w j hj
  show -1 ≤ (if j = a then s else h.1 j) ∧ (if j = a then s else h.1 j) ≤ 4 ∧ 0 ≤ (if j = a then n else h.2.1 j) ∧ (if j = a then n else h.2.1 j) ≤ 40 ∧ (∀ i, i < 40 → zrn (if j = a then 0 else h.2.2.1 j i)) ∧ 0 ≤ h.2.2.2.1 j ∧ h.2.2.2.1 j ≤ 2 ∧ (h.2.2.2.1 j ≠ 0 → 0 ≤ h.2.2.2.2.1 j ∧ h.2.2.2.2.1 j ≤ 40) ∧ -1 ≤ h.2.2.2.2.2 j ∧ h.2.2.2.2.2 j ≤ 4
  by_cases q : j = a
  · simp only [if_pos q]
    exact ⟨hs.1, hs.2, hn.1, hn.2, fun _ _ => by decide, w6, w7, w8, w9, w10⟩
  · simp only [if_neg q]
    exact ⟨w1, w2, w3, w4, w5, w6, w7, w8, w9, w10⟩
theorem zx_128 {x : zXx} (w : WX x) (a s n : Int) (ha : zrn a) (hs : zrn s) (hn : zrn n) : zCall 128 250 [.inl (iI a), .inl (iI s), .inl (iI n)] x := by
  have c4 : ∀ {σ : zM}, zev 63 141 [.inl (iI s), .inl (-1), .inl 4] σ = some (zB (decide (-1 ≤ s ∧ s ≤ 4)), 0, σ) := fun {σ} => by
    have := zc141 (d := 62) (z := s) (l := -1) (h := 4) (σ := σ) hs (by decide) (by decide)
    rw [← zlitm1] at this
    exact this
  have m4 : ∀ {σ : zM}, zev 63 149 [.inr (.inl (Int32.toInt64 (iI s))), .inr (.inl (-1)), .inr (.inl 4)] σ = some (zB (decide (-1 ≤ s ∧ s ≤ 4)), 0, σ) := fun {σ} => by
    rw [zm149 hs]
    rfl
  have e1 : (iI s = -1) = (s = -1) := by rw [zlitm1]; exact iI_eq hs (by decide)
  have e40 : (40 < iI n) = (40 < n) := iI_lt (a := 40) (by decide) hn
  by_cases q1 : 0 ≤ a ∧ a ≤ 3
  case neg =>
    refine zCq (-1) w (fun σ h => ?_) (fun σ h => ?_)
    · rw [ez_128]
      simp only [zc144 (d := 61) ha, zbs, zBi, decide_eq_false q1, cond_false]
      exact ⟨σ, rfl, zFr_r σ⟩
    · rw [ez_250]
      simp only [zm249 (d := 61) ha, zbs, zBi, decide_eq_false q1, cond_false]
      exact ⟨σ, rfl, zFr_r σ, h.1⟩
  case pos =>
  by_cases q2 : -1 ≤ s ∧ s ≤ 4
  case neg =>
    refine zCq (-1) w (fun σ h => ?_) (fun σ h => ?_)
    · rw [ez_128]
      simp only [zc144 (d := 61) ha, c4, zbs, zBi, decide_eq_true q1, decide_eq_false q2, cond_true, cond_false]
      exact ⟨σ, rfl, zFr_r σ⟩
    · rw [ez_250]
      simp only [zm249 (d := 61) ha, m4, zbs, zBi, decide_eq_true q1, decide_eq_false q2, cond_true, cond_false]
      exact ⟨σ, rfl, zFr_r σ, h.1⟩
  case pos =>
  obtain ⟨j, rfl⟩ := zint q1.1
  have hj : j < 4 := by omega
  have hg : ∀ {y : zR}, zgd (zin (iI j) 4) y = y := fun {y} => zgd_t (iI_ink (z := j) (k := j) rfl hj (by decide))
  have hN : Int32.toNatClampNeg (iI j) = j := iI_Nn (by omega)
  by_cases q3 : s = -1
  · subst q3
    refine ⟨xsh x (aSh (xh x) j (-1) 0), 1, ⟨w.1, w.2.1, w.2.2.1, w.2.2.2.1, wH_sh w.2.2.2.2.1 (by omega) (by omega), w.2.2.2.2.2⟩, fun σ h => ?_, fun σ h => ?_⟩
    · rw [ez_128]
      simp only [zc144 (d := 61) ha, c4, zbs, zBi, decide_eq_true q1, decide_eq_true q2, cond_true, e1, if_true, hg, hN]
      refine ⟨0, _, rfl, RC_h h (fun g k hk => zfn (by omega)) fun i hi => ?_⟩
      have hh := h.2.2.2.2.1 i hi
      show _ = iI (if i = j then -1 else (xh x).1 i) ∧ (0 ≤ (if i = j then (-1 : Int) else (xh x).1 i) → _ = iI (if i = j then 0 else (xh x).2.1 i)) ∧ (0 ≤ (if i = j then (-1 : Int) else (xh x).1 i) → ∀ i', i' < 40 → _ = lI (if i = j then 0 else (xh x).2.2.1 i i')) ∧ _
      by_cases qi : i = j
      · subst qi
        simp only [if_true]
        refine ⟨by rw [zfs]; decide, fun z => by omega, fun z => by omega, ?_⟩
        rw [zfe (by omega), zfe (by omega), zfe (by omega)]
        exact hh.2.2.2
      · simp only [if_neg qi]
        rw [zfe (by omega), zfe (by omega), zfe (by omega), zfe (by omega), zfe (by omega)]
        exact hh
    · obtain ⟨τ, g1, g2, g3, g4⟩ := zm250_69 (C := zev 63) hj 40 0 (zwI (zwI σ 0 73 j (-1)) 0 74 j 0) (some (.inl (iI (-1)))) (some (.inl (iI n))) rfl (fun i hi => absurd hi (Nat.not_lt_zero _))
      have e : zev 64 250 [.inr (.inr (0, 60)), .inl (iI j), .inl (iI (-1)), .inl (iI n)] σ = some (1, 0, τ) := by
        rw [ez_250]
        simp only [zm249 (d := 61) ha, m4, zbs, zBi, decide_eq_true q1, decide_eq_true q2, cond_true]
        rw [if_pos (by decide), ez_250_33, if_pos (by decide), ez_250_44, hg, if_pos (by decide), hg, hN]
        exact g1
      refine ⟨0, τ, e, RM_h h (fun k hk => by rw [g2 k (by omega), zfn (by omega), zfn (by omega)]) fun i hi => ?_⟩
      have hh := h.2.2.2.2.1 i hi
      rw [g2 73 (by decide), g2 74 (by decide), g2 76 (by decide), g2 77 (by decide), g2 78 (by decide)]
      show _ = iI (if i = j then -1 else (xh x).1 i) ∧ (0 ≤ (if i = j then (-1 : Int) else (xh x).1 i) → _ = iI (if i = j then 0 else (xh x).2.1 i)) ∧ (0 ≤ (if i = j then (-1 : Int) else (xh x).1 i) → ∀ i', i' < 40 → τ.1 0 75 (40 * i + i') = iI (if i = j then 0 else (xh x).2.2.1 i i')) ∧ _
      by_cases qi : i = j
      · subst qi
        simp only [if_true]
        refine ⟨by rw [zfe (by omega), zfs]; decide, fun z => by omega, fun z => by omega, ⟨0, by rw [zfs]; rfl, by omega, by omega⟩, ?_⟩
        rw [zfe (by omega), zfe (by omega), zfe (by omega), zfe (by omega), zfe (by omega), zfe (by omega)]
        exact hh.2.2.2.2
      · simp only [if_neg qi]
        rw [zfe (by omega), zfe (by omega), zfe (by omega), zfe (by omega), zfe (by omega), zfe (by omega), zfe (by omega), zfe (by omega), zfe (by omega), zfe (by omega)]
        refine ⟨hh.1, hh.2.1, fun z i' hi' => ?_, hh.2.2.2⟩
        rw [g4 _ (by omega), zfe (by omega), zfe (by omega)]
        exact hh.2.2.1 z i' hi'
  · have n0 : ¬ s < 0 := by omega
    have hcs : (iI s < 0) = (s < 0) := iI_lt0 hs
    by_cases q4 : 40 < n
    · refine zCq (-1) w (fun σ h => ?_) (fun σ h => ?_)
      · rw [ez_128]
        simp only [zc144 (d := 61) ha, c4, zbs, zBi, decide_eq_true q1, decide_eq_true q2, cond_true, e1, e40]
        rw [if_neg q3, if_pos q4]
        exact ⟨σ, rfl, zFr_r σ⟩
      · rw [ez_250]
        simp only [zm249 (d := 61) ha, m4, zbs, zBi, decide_eq_true q1, decide_eq_true q2, cond_true, hcs, e40]
        rw [if_neg n0, if_pos q4]
        exact ⟨σ, rfl, zFr_r σ, h.1⟩
    · by_cases q5 : n < 0
      · refine zCq (-14) w (fun σ h => ?_) (fun σ h => ?_)
        · rw [ez_128]
          simp only [zc144 (d := 61) ha, c4, zbs, zBi, decide_eq_true q1, decide_eq_true q2, cond_true, e1, e40, iI_lt0 hn]
          rw [if_neg q3, if_neg q4, if_pos q5]
          exact ⟨σ, rfl, zFr_r σ⟩
        · rw [ez_250]
          simp only [zm249 (d := 61) ha, m4, zbs, zBi, decide_eq_true q1, decide_eq_true q2, cond_true, hcs, e40]
          rw [if_neg n0, if_neg q4, ez_250_33, if_neg (by rw [hcs]; exact n0), if_pos (by rw [iI_lt0 hn]; exact q5)]
          exact ⟨σ, rfl, zFr_r σ, h.1⟩
      · refine ⟨xsh x (aSh (xh x) j s n), 1, ⟨w.1, w.2.1, w.2.2.1, w.2.2.2.1, wH_sh w.2.2.2.2.1 (by omega) (by omega), w.2.2.2.2.2⟩, fun σ h => ?_, fun σ h => ?_⟩
        · obtain ⟨τ, g1, g2, g3, g4⟩ := zc17_17 (C := zev 62) hj 40 0 (zwI (zwI σ 0 42 j (iI s)) 0 43 j (iI n)) (some (.inl (iI s))) (some (.inl (iI n))) rfl (fun i hi => absurd hi (Nat.not_lt_zero _))
          have e17 : zev 63 17 [.inr (.inr (0, 41)), .inl (iI j), .inl (iI s), .inl (iI n)] σ = some (0, 0, τ) := by
            rw [ez_17]
            simp only [hg, hN]
            exact g1
          have e : zev 64 128 [.inr (.inr (0, 30)), .inl (iI j), .inl (iI s), .inl (iI n)] σ = some (1, 0, τ) := by
            rw [ez_128]
            simp only [zc144 (d := 61) ha, c4, zbs, zBi, decide_eq_true q1, decide_eq_true q2, cond_true, e1, e40, iI_lt0 hn, e17]
            rw [if_neg q3, if_neg q4, if_neg q5]
          refine ⟨0, τ, e, RC_h h (fun g k hk => by rw [g2, zfn (by omega), zfn (by omega)]) fun i hi => ?_⟩
          have hh := h.2.2.2.2.1 i hi
          rw [g2]
          show _ = iI (if i = j then s else (xh x).1 i) ∧ (0 ≤ (if i = j then s else (xh x).1 i) → _ = iI (if i = j then n else (xh x).2.1 i)) ∧ (0 ≤ (if i = j then s else (xh x).1 i) → ∀ i', i' < 40 → τ.2 i 45 i' = lI (if i = j then 0 else (xh x).2.2.1 i i')) ∧ _
          by_cases qi : i = j
          · subst qi
            simp only [if_true]
            refine ⟨by rw [zfe (by omega), zfs], fun _ => by rw [zfs], fun _ i' hi' => g3 i' hi', ?_⟩
            rw [zfe (by omega), zfe (by omega), zfe (by omega), zfe (by omega), zfe (by omega), zfe (by omega)]
            exact hh.2.2.2
          · simp only [if_neg qi]
            rw [zfe (by omega), zfe (by omega), zfe (by omega), zfe (by omega), zfe (by omega), zfe (by omega), zfe (by omega), zfe (by omega), zfe (by omega), zfe (by omega)]
            refine ⟨hh.1, hh.2.1, fun z i' hi' => ?_, hh.2.2.2⟩
            rw [g4 i i' qi]
            exact hh.2.2.1 z i' hi'
        · obtain ⟨τ, g1, g2, g3, g4⟩ := zm250_69 (C := zev 63) hj 40 0 (zwI (zwI σ 0 73 j (iI s)) 0 74 j (iI n)) (some (.inl (iI s))) (some (.inl (iI n))) rfl (fun i hi => absurd hi (Nat.not_lt_zero _))
          have e : zev 64 250 [.inr (.inr (0, 60)), .inl (iI j), .inl (iI s), .inl (iI n)] σ = some (1, 0, τ) := by
            rw [ez_250]
            simp only [zm249 (d := 61) ha, m4, zbs, zBi, decide_eq_true q1, decide_eq_true q2, cond_true, hcs, e40]
            rw [if_neg n0, if_neg q4, ez_250_33, if_neg (by rw [hcs]; exact n0), if_neg (by rw [iI_lt0 hn]; exact q5), ez_250_44, hg, if_neg (by rw [hcs]; exact n0), hg, hN]
            exact g1
          refine ⟨0, τ, e, RM_h h (fun k hk => by rw [g2 k (by omega), zfn (by omega), zfn (by omega)]) fun i hi => ?_⟩
          have hh := h.2.2.2.2.1 i hi
          rw [g2 73 (by decide), g2 74 (by decide), g2 76 (by decide), g2 77 (by decide), g2 78 (by decide)]
          show _ = iI (if i = j then s else (xh x).1 i) ∧ (0 ≤ (if i = j then s else (xh x).1 i) → _ = iI (if i = j then n else (xh x).2.1 i)) ∧ (0 ≤ (if i = j then s else (xh x).1 i) → ∀ i', i' < 40 → τ.1 0 75 (40 * i + i') = iI (if i = j then 0 else (xh x).2.2.1 i i')) ∧ _
          by_cases qi : i = j
          · subst qi
            simp only [if_true]
            refine ⟨by rw [zfe (by omega), zfs], fun _ => by rw [zfs], fun _ i' hi' => by rw [g3 i' hi']; rfl, ⟨n, by rw [zfs], by omega, by omega⟩, ?_⟩
            rw [zfe (by omega), zfe (by omega), zfe (by omega), zfe (by omega), zfe (by omega), zfe (by omega)]
            exact hh.2.2.2.2
          · simp only [if_neg qi]
            rw [zfe (by omega), zfe (by omega), zfe (by omega), zfe (by omega), zfe (by omega), zfe (by omega), zfe (by omega), zfe (by omega), zfe (by omega), zfe (by omega)]
            refine ⟨hh.1, hh.2.1, fun z i' hi' => ?_, hh.2.2.2⟩
            rw [g4 _ (by omega), zfe (by omega), zfe (by omega)]
            exact hh.2.2.1 z i' hi'
def aNr (s v : Int) : Int := if s = 0 then (Int32.toInt8 (iI v)).toInt32.toInt else if s = 1 then (Int32.toInt16 (iI v)).toInt32.toInt else if s = 4 then (if v = 0 then 0 else 1) else v
theorem aNr_r {s v : Int} (hv : zrn v) : zrn (aNr s v) := by
  unfold aNr
  split
  · exact t_rn _
  · split
    · exact t_rn _
    · split
      · split <;> decide
      · exact hv
theorem lI_t (x : Int32) : lI x.toInt = Int32.toInt64 x := Int64.ofInt_int32ToInt x
theorem lI_i {z : Int} (hz : zrn z) : Int32.toInt64 (iI z) = lI z := by rw [← lI_t, t_iI hz]
theorem lI_32 (z : Int) : Int64.toInt32 (lI z) = iI z := Int64.toInt32_ofInt
theorem zc138 {d : Nat} {s v : Int} {σ : zM} (hs : 0 ≤ s ∧ s ≤ 4) (hv : zrn v) : zev (d + 1) 138 [.inl (iI s), .inl (iI v)] σ = some (0, lI (aNr s v), σ) := by
  have e0 : (iI v = 0) = (v = 0) := iI_0 hv
  rw [ez_138]
  unfold aNr
  rcases (by omega : s = 0 ∨ s = 1 ∨ s = 2 ∨ s = 3 ∨ s = 4) with rfl | rfl | rfl | rfl | rfl
  · show (some (0, _, σ) : zR) = some (0, lI _, σ)
    rw [if_pos rfl, lI_t]
  · show (some (0, _, σ) : zR) = some (0, lI _, σ)
    rw [if_neg (by decide), if_pos rfl, lI_t]
  · show (some (0, Int32.toInt64 (iI v), σ) : zR) = some (0, lI _, σ)
    rw [if_neg (by decide), if_neg (by decide), if_neg (by decide), lI_i hv]
  · show (some (0, Int32.toInt64 (iI v), σ) : zR) = some (0, lI _, σ)
    rw [if_neg (by decide), if_neg (by decide), if_neg (by decide), lI_i hv]
  · show (if iI v = 0 then some (0, 0, σ) else some (0, 1, σ)) = some (0, lI _, σ)
    rw [if_neg (show ¬ (4 : Int) = 0 by decide), if_neg (show ¬ (4 : Int) = 1 by decide), if_pos (show (4 : Int) = 4 from rfl)]
    simp only [e0]
    by_cases q : v = 0
    · rw [if_pos q, if_pos q]; rfl
    · rw [if_neg q, if_neg q]; rfl
theorem zm251 {d : Nat} {s v : Int} {σ : zM} (hs : 0 ≤ s ∧ s ≤ 4) (hv : zrn v) : zev (d + 1) 251 [.inl (iI s), .inl (iI v)] σ = some (iI (aNr s v), 0, σ) := by
  have e0 : (iI v = 0) = (v = 0) := iI_0 hv
  rw [ez_251]
  unfold aNr
  rcases (by omega : s = 0 ∨ s = 1 ∨ s = 2 ∨ s = 3 ∨ s = 4) with rfl | rfl | rfl | rfl | rfl
  · show (some ((Int32.toInt8 (iI v)).toInt32, 0, σ) : zR) = _
    rw [if_pos rfl, iI_t]
  · show (some ((Int32.toInt16 (iI v)).toInt32, 0, σ) : zR) = _
    rw [if_neg (by decide), if_pos rfl, iI_t]
  · show (some (iI v, 0, σ) : zR) = _
    rw [if_neg (by decide), if_neg (by decide), if_neg (by decide)]
  · show (some (iI v, 0, σ) : zR) = _
    rw [if_neg (by decide), if_neg (by decide), if_neg (by decide)]
  · show (if iI v = 0 then some (0, 0, σ) else some (1, 0, σ)) = _
    rw [if_neg (show ¬ (4 : Int) = 0 by decide), if_neg (show ¬ (4 : Int) = 1 by decide), if_pos (show (4 : Int) = 4 from rfl)]
    simp only [e0]
    by_cases q : v = 0
    · rw [if_pos q, if_pos q]; rfl
    · rw [if_neg q, if_neg q]; rfl
theorem zc19 {d j : Nat} {i : Int} {h : zXh} {σ : zM} (hh : cHo h σ) (w : wH h) (hj : j < 4) (h0 : 0 ≤ h.1 j) (hi : zrn i) : zev (d + 1) 19 [.inr (.inr (0, 41)), .inl (iI j), .inl (iI i)] σ = some (zB (decide (0 ≤ i ∧ i < h.2.1 j)), 0, σ) := by
  have w1 := w j hj
  rw [ez_19]
  simp only [iI_lt0 hi, zgd_t (iI_ink (z := j) (k := j) rfl hj (by decide)), iI_Nn (show j ≤ 2147483647 by omega), (hh j hj).2.1 h0, iI_lt hi (show zrn (h.2.1 j) by omega), zg30, zg31]
  by_cases q : i < 0
  · rw [if_pos q, decide_eq_false (by omega)]; rfl
  · by_cases q2 : i < h.2.1 j
    · rw [if_neg q, if_pos q2, decide_eq_true (by omega)]; rfl
    · rw [if_neg q, if_neg q2, decide_eq_false (by omega)]; rfl
theorem zc18 {d j : Nat} {s : Int} {h : zXh} {σ : zM} (hh : cHo h σ) (w : wH h) (hj : j < 4) (hs : zrn s) : zev (d + 1) 18 [.inr (.inr (0, 41)), .inl (iI j), .inl (iI s)] σ = some (if h.1 j = -1 then -11 else if h.1 j = s then 0 else -13, 0, σ) := by
  have w1 := w j hj
  have e1 : (iI (h.1 j) = -1) = (h.1 j = -1) := by rw [zlitm1]; exact iI_eq (by omega) (by decide)
  rw [ez_18]
  simp only [zgd_t (iI_ink (z := j) (k := j) rfl hj (by decide)), iI_Nn (show j ≤ 2147483647 by omega), (hh j hj).1, e1, iI_eq (show zrn (h.1 j) by omega) hs]
  by_cases q : h.1 j = -1
  · rw [if_pos q, if_pos q]
  · rw [if_neg q, if_neg q]
    by_cases q2 : h.1 j = s
    · rw [if_pos q2, if_pos q2]
    · rw [if_neg q2, if_neg q2]
theorem zm253 {d j : Nat} {s : Int} {h : zXh} {σ : zM} (hh : mHo h σ) (w : wH h) (hj : j < 4) (hs : zrn s) : zev (d + 1) 253 [.inr (.inr (0, 60)), .inl (iI j), .inl (iI s)] σ = some (if h.1 j = -1 then -11 else if h.1 j = s then 0 else -13, 0, σ) := by
  have w1 := w j hj
  rw [ez_253]
  simp only [zgd_t (iI_ink (z := j) (k := j) rfl hj (by decide)), iI_Nn (show j ≤ 2147483647 by omega), (hh j hj).1, iI_lt0 (show zrn (h.1 j) by omega), iI_eq (show zrn (h.1 j) by omega) hs]
  by_cases q : h.1 j = -1
  · rw [if_pos (by omega), if_pos q]
  · rw [if_neg (by omega), if_neg q]
    by_cases q2 : h.1 j = s
    · rw [if_pos q2, if_pos q2]
    · rw [if_neg q2, if_neg q2]
theorem zm149h {d j : Nat} {i : Int} {h : zXh} {σ : zM} (hh : mHo h σ) (w : wH h) (hj : j < 4) (h0 : 0 ≤ h.1 j) (hi : zrn i) : zev (d + 1) 149 [.inr (.inl (Int32.toInt64 (iI i))), .inr (.inl 0), .inr (.inl (Int32.toInt64 (σ.1 0 74 j - 1)))] σ = some (zB (decide (0 ≤ i ∧ i < h.2.1 j)), 0, σ) := by
  have w1 := w j hj
  rw [(hh j hj).2.1 h0, iI_s1, zm149 hi, zt64 (by omega)]
  rw [zdec (show ((0 : Int64).toInt ≤ i ∧ i ≤ h.2.1 j - 1) ↔ (0 ≤ i ∧ i < h.2.1 j) by rw [show (0 : Int64).toInt = 0 by decide]; omega)]
def aWr (h : zXh) (a b : Nat) (v : Int) : zXh := (h.1, h.2.1, fun j i => if j = a ∧ i = b then v else h.2.2.1 j i, h.2.2.2)
theorem zx_129 {x : zXx} (w : WX x) (a i v : Int) (ha : zrn a) (hi : zrn i) (hv : zrn v) : zCall 129 252 [.inl (iI a), .inl (iI i), .inl (iI v)] x := by
  have wh := w.2.2.2.2.1
  by_cases q1 : 0 ≤ a ∧ a ≤ 3
  case neg =>
    refine zCq (-1) w (fun σ h => ?_) (fun σ h => ?_)
    · rw [ez_129]
      simp only [zc144 (d := 61) ha, zbs, zBi, decide_eq_false q1, cond_false]
      exact ⟨σ, rfl, zFr_r σ⟩
    · rw [ez_252]
      simp only [zm249 (d := 61) ha, zbs, zBi, decide_eq_false q1, cond_false]
      exact ⟨σ, rfl, zFr_r σ, h.1⟩
  case pos =>
  obtain ⟨j, rfl⟩ := zint q1.1
  have hj : j < 4 := by omega
  have w1 := wh j hj
  have hg : ∀ {y : zR}, zgd (zin (iI j) 4) y = y := fun {y} => zgd_t (iI_ink (z := j) (k := j) rfl hj (by decide))
  have hN : Int32.toNatClampNeg (iI j) = j := iI_Nn (by omega)
  have e1 : (iI ((xh x).1 j) = -1) = ((xh x).1 j = -1) := by rw [zlitm1]; exact iI_eq (by omega) (by decide)
  by_cases q2 : (xh x).1 j = -1
  · refine zCq (-11) w (fun σ h => ?_) (fun σ h => ?_)
    · rw [ez_129]
      simp only [zc144 (d := 61) ha, zbs, zBi, decide_eq_true q1, cond_true, hg, hN, (h.2.2.2.2.1 j hj).1, e1]
      rw [if_pos q2]
      exact ⟨σ, rfl, zFr_r σ⟩
    · rw [ez_252]
      simp only [zm249 (d := 61) ha, zbs, zBi, decide_eq_true q1, cond_true, hg, hN, (h.2.2.2.2.1 j hj).1, iI_lt0 (show zrn ((xh x).1 j) by omega)]
      rw [if_pos (by omega)]
      exact ⟨σ, rfl, zFr_r σ, h.1⟩
  · have h0 : 0 ≤ (xh x).1 j := by omega
    by_cases q3 : 0 ≤ i ∧ i < (xh x).2.1 j
    · obtain ⟨k, rfl⟩ := zint q3.1
      have hk : k < 40 := by omega
      refine ⟨xsh x (aWr (xh x) j k (aNr ((xh x).1 j) v)), 1, ⟨w.1, w.2.1, w.2.2.1, w.2.2.2.1, fun m hm => ?_, w.2.2.2.2.2⟩, fun σ h => ?_, fun σ h => ?_⟩
      · obtain ⟨u1, u2, u3, u4, u5, u6⟩ := wh m hm
        refine ⟨u1, u2, u3, u4, fun i' hi' => ?_, u6⟩
        show zrn (if m = j ∧ i' = k then aNr ((xh x).1 j) v else (xh x).2.2.1 m i')
        split
        · exact aNr_r hv
        · exact u5 i' hi'
      · rw [ez_129]
        simp only [zc144 (d := 61) ha, zbs, zBi, decide_eq_true q1, cond_true, hg, hN, (h.2.2.2.2.1 j hj).1, e1, zc19 (d := 62) h.2.2.2.2.1 wh hj h0 hi, decide_eq_true q3, zc138 (d := 62) (show 0 ≤ (xh x).1 j ∧ (xh x).1 j ≤ 4 by omega) hv, zgd_t (iI_ink (z := k) (k := k) rfl hk (by decide)), iI_Nn (show k ≤ 2147483647 by omega)]
        rw [if_neg q2]
        refine ⟨0, _, rfl, RC_h h (fun _ _ _ => rfl) fun m hm => ?_⟩
        have hh := h.2.2.2.2.1 m hm
        refine ⟨hh.1, hh.2.1, fun z i' hi' => ?_, hh.2.2.2⟩
        show _ = lI (if m = j ∧ i' = k then aNr ((xh x).1 j) v else (xh x).2.2.1 m i')
        rw [zrdL]
        by_cases qm : m = j ∧ i' = k
        · rw [if_pos ⟨qm.1, rfl, qm.2⟩, if_pos qm]
        · rw [if_neg (fun z => qm ⟨z.1, z.2.2⟩), if_neg qm]
          exact hh.2.2.1 z i' hi'
      · have i0 : (40 : Int32) * iI j + iI k = iI ((40 * j + k : Nat) : Int) := by
          show iI 40 * iI j + iI k = _
          rw [iI_mul, iI_add]; congr 1
        rw [ez_252]
        simp only [zm249 (d := 61) ha, zbs, zBi, decide_eq_true q1, cond_true, hg, hN, (h.2.2.2.2.1 j hj).1, iI_lt0 (show zrn ((xh x).1 j) by omega), zm149h (d := 62) h.2.2.2.2.1 wh hj h0 hi, decide_eq_true q3, zm251 (d := 62) (show 0 ≤ (xh x).1 j ∧ (xh x).1 j ≤ 4 by omega) hv, i0, zgd_t (iI_ink (z := ((40 * j + k : Nat) : Int)) (k := 40 * j + k) rfl (show 40 * j + k < 160 by omega) (by decide)), iI_Nn (show 40 * j + k ≤ 2147483647 by omega)]
        rw [if_neg (by omega)]
        refine ⟨0, _, rfl, RM_h h (fun k' hk' => zfn (by omega)) fun m hm => ?_⟩
        have hh := h.2.2.2.2.1 m hm
        rw [zfe (by omega), zfe (by omega), zfe (by omega), zfe (by omega), zfe (by omega)]
        refine ⟨hh.1, hh.2.1, fun z i' hi' => ?_, hh.2.2.2⟩
        show _ = iI (if m = j ∧ i' = k then aNr ((xh x).1 j) v else (xh x).2.2.1 m i')
        by_cases qm : m = j ∧ i' = k
        · rw [if_pos qm, qm.1, qm.2, zfs]
        · rw [zfe (by omega), if_neg qm]
          exact hh.2.2.1 z i' hi'
    · refine zCq (-12) w (fun σ h => ?_) (fun σ h => ?_)
      · rw [ez_129]
        simp only [zc144 (d := 61) ha, zbs, zBi, decide_eq_true q1, cond_true, hg, hN, (h.2.2.2.2.1 j hj).1, e1, zc19 (d := 62) h.2.2.2.2.1 wh hj h0 hi, decide_eq_false q3, cond_false]
        rw [if_neg q2]
        exact ⟨σ, rfl, zFr_r σ⟩
      · rw [ez_252]
        simp only [zm249 (d := 61) ha, zbs, zBi, decide_eq_true q1, cond_true, hg, hN, (h.2.2.2.2.1 j hj).1, iI_lt0 (show zrn ((xh x).1 j) by omega), zm149h (d := 62) h.2.2.2.2.1 wh hj h0 hi, decide_eq_false q3, cond_false]
        rw [if_neg (by omega)]
        exact ⟨σ, rfl, zFr_r σ, h.1⟩
theorem zx_130 {x : zXx} (w : WX x) (a s i : Int) (ha : zrn a) (hs : zrn s) (hi : zrn i) : zCall 130 254 [.inl (iI a), .inl (iI s), .inl (iI i)] x := by
  have wh := w.2.2.2.2.1
  have c4 : ∀ {σ : zM}, zev 63 141 [.inl (iI s), .inl 0, .inl 4] σ = some (zB (decide (0 ≤ s ∧ s ≤ 4)), 0, σ) := zc141 (l := 0) (h := 4) hs (by decide) (by decide)
  have m4 : ∀ {σ : zM}, zev 63 149 [.inr (.inl (Int32.toInt64 (iI s))), .inr (.inl 0), .inr (.inl 4)] σ = some (zB (decide (0 ≤ s ∧ s ≤ 4)), 0, σ) := zm149k (l := 0) (h := 4) hs (by decide) (by decide)
  by_cases q1 : 0 ≤ a ∧ a ≤ 3
  case neg =>
    refine zCq (-1) w (fun σ h => ?_) (fun σ h => ?_)
    · rw [ez_130]
      simp only [zc144 (d := 61) ha, zbs, zBi, decide_eq_false q1, cond_false]
      exact ⟨σ, rfl, zFr_r σ⟩
    · rw [ez_254]
      simp only [zm249 (d := 61) ha, zbs, zBi, decide_eq_false q1, cond_false]
      exact ⟨σ, rfl, zFr_r σ, h.1⟩
  case pos =>
  by_cases q2 : 0 ≤ s ∧ s ≤ 4
  case neg =>
    refine zCq (-1) w (fun σ h => ?_) (fun σ h => ?_)
    · rw [ez_130]
      simp only [zc144 (d := 61) ha, c4, zbs, zBi, decide_eq_true q1, decide_eq_false q2, cond_true, cond_false]
      exact ⟨σ, rfl, zFr_r σ⟩
    · rw [ez_254]
      simp only [zm249 (d := 61) ha, m4, zbs, zBi, decide_eq_true q1, decide_eq_false q2, cond_true, cond_false]
      exact ⟨σ, rfl, zFr_r σ, h.1⟩
  case pos =>
  obtain ⟨j, rfl⟩ := zint q1.1
  have hj : j < 4 := by omega
  have w1 := wh j hj
  have hg : ∀ {y : zR}, zgd (zin (iI j) 4) y = y := fun {y} => zgd_t (iI_ink (z := j) (k := j) rfl hj (by decide))
  have hN : Int32.toNatClampNeg (iI j) = j := iI_Nn (by omega)
  by_cases q3 : (xh x).1 j = -1
  · refine zCq (-11) w (fun σ h => ?_) (fun σ h => ?_)
    · rw [ez_130]
      simp only [zc144 (d := 61) ha, c4, zbs, zBi, decide_eq_true q1, decide_eq_true q2, cond_true, zc18 (d := 62) h.2.2.2.2.1 wh hj hs, if_pos q3]
      exact ⟨σ, rfl, zFr_r σ⟩
    · rw [ez_254]
      simp only [zm249 (d := 61) ha, m4, zbs, zBi, decide_eq_true q1, decide_eq_true q2, cond_true, zm253 (d := 62) h.2.2.2.2.1 wh hj hs, if_pos q3]
      exact ⟨σ, rfl, zFr_r σ, h.1⟩
  · have h0 : 0 ≤ (xh x).1 j := by omega
    by_cases q4 : (xh x).1 j = s
    · have r0 : ∀ {y y' : zR}, (if (if (xh x).1 j = -1 then (-11 : Int32) else if (xh x).1 j = s then 0 else -13) = 0 then y else y') = y := fun {y y'} => by
        rw [if_neg q3, if_pos q4]; rfl
      by_cases q5 : 0 ≤ i ∧ i < (xh x).2.1 j
      · obtain ⟨k, rfl⟩ := zint q5.1
        have hk : k < 40 := by omega
        refine zCq (iI ((xh x).2.2.1 j k)) w (fun σ h => ?_) (fun σ h => ?_)
        · rw [ez_130]
          simp only [zc144 (d := 61) ha, c4, zbs, zBi, decide_eq_true q1, decide_eq_true q2, cond_true, zc18 (d := 62) h.2.2.2.2.1 wh hj hs, r0, zc19 (d := 62) h.2.2.2.2.1 wh hj h0 hi, decide_eq_true q5, hg, hN, zgd_t (iI_ink (z := k) (k := k) rfl hk (by decide)), iI_Nn (show k ≤ 2147483647 by omega), (h.2.2.2.2.1 j hj).2.2.1 h0 k hk, lI_32]
          exact ⟨σ, rfl, zFr_r σ⟩
        · have i0 : (40 : Int32) * iI j + iI k = iI ((40 * j + k : Nat) : Int) := by
            show iI 40 * iI j + iI k = _
            rw [iI_mul, iI_add]; congr 1
          rw [ez_254]
          simp only [zm249 (d := 61) ha, m4, zbs, zBi, decide_eq_true q1, decide_eq_true q2, cond_true, zm253 (d := 62) h.2.2.2.2.1 wh hj hs, r0, hg, hN, zm149h (d := 62) h.2.2.2.2.1 wh hj h0 hi, decide_eq_true q5, i0, zgd_t (iI_ink (z := ((40 * j + k : Nat) : Int)) (k := 40 * j + k) rfl (show 40 * j + k < 160 by omega) (by decide)), iI_Nn (show 40 * j + k ≤ 2147483647 by omega), (h.2.2.2.2.1 j hj).2.2.1 h0 k hk]
          exact ⟨σ, rfl, zFr_r σ, h.1⟩
      · refine zCq (-12) w (fun σ h => ?_) (fun σ h => ?_)
        · rw [ez_130]
          simp only [zc144 (d := 61) ha, c4, zbs, zBi, decide_eq_true q1, decide_eq_true q2, cond_true, zc18 (d := 62) h.2.2.2.2.1 wh hj hs, r0, zc19 (d := 62) h.2.2.2.2.1 wh hj h0 hi, decide_eq_false q5, cond_false]
          exact ⟨σ, rfl, zFr_r σ⟩
        · rw [ez_254]
          simp only [zm249 (d := 61) ha, m4, zbs, zBi, decide_eq_true q1, decide_eq_true q2, cond_true, zm253 (d := 62) h.2.2.2.2.1 wh hj hs, r0, hg, hN, zm149h (d := 62) h.2.2.2.2.1 wh hj h0 hi, decide_eq_false q5, cond_false]
          exact ⟨σ, rfl, zFr_r σ, h.1⟩
    · refine zCq (-13) w (fun σ h => ?_) (fun σ h => ?_)
      · rw [ez_130]
        simp only [zc144 (d := 61) ha, c4, zbs, zBi, decide_eq_true q1, decide_eq_true q2, cond_true, zc18 (d := 62) h.2.2.2.2.1 wh hj hs, if_neg q3, if_neg q4]
        exact ⟨σ, rfl, zFr_r σ⟩
      · rw [ez_254]
        simp only [zm249 (d := 61) ha, m4, zbs, zBi, decide_eq_true q1, decide_eq_true q2, cond_true, zm253 (d := 62) h.2.2.2.2.1 wh hj hs, if_neg q3, if_neg q4]
        exact ⟨σ, rfl, zFr_r σ, h.1⟩
def aSv (h : zXh) (a : Nat) (l n s : Int) : zXh := (h.1, h.2.1, h.2.2.1, fun j => if j = a then l else h.2.2.2.1 j, fun j => if j = a then n else h.2.2.2.2.1 j, fun j => if j = a then s else h.2.2.2.2.2 j)
theorem wH_sv {h : zXh} {a : Nat} {l n s : Int} (w : wH h) (hl : 0 ≤ l ∧ l ≤ 2) (hn : 0 ≤ n ∧ n ≤ 40) (hs : -1 ≤ s ∧ s ≤ 4) : wH (aSv h a l n s) := by
  intro j hj
  obtain ⟨w1, w2, w3, w4, w5, w6, w7, w8, w9, w10⟩ := w j hj
  refine ⟨w1, w2, w3, w4, w5, ?_⟩
  show 0 ≤ (if j = a then l else h.2.2.2.1 j) ∧ (if j = a then l else h.2.2.2.1 j) ≤ 2 ∧ ((if j = a then l else h.2.2.2.1 j) ≠ 0 → 0 ≤ (if j = a then n else h.2.2.2.2.1 j) ∧ (if j = a then n else h.2.2.2.2.1 j) ≤ 40) ∧ -1 ≤ (if j = a then s else h.2.2.2.2.2 j) ∧ (if j = a then s else h.2.2.2.2.2 j) ≤ 4
  by_cases q : j = a
  · simp only [if_pos q]
    exact ⟨hl.1, hl.2, fun _ => hn, hs.1, hs.2⟩
  · simp only [if_neg q]
    exact ⟨w6, w7, w8, w9, w10⟩
theorem cHo_sv {h : zXh} {a : Nat} {l n s : Int} {σ τ : zM} (hh : cHo h σ) (e : ∀ k, k = 42 ∨ k = 43 → τ.1 0 k = σ.1 0 k) (e2 : τ.2 = σ.2) (e3 : ∀ j, j ≠ a → τ.1 0 46 j = σ.1 0 46 j ∧ τ.1 0 47 j = σ.1 0 47 j ∧ τ.1 0 48 j = σ.1 0 48 j) (h1 : τ.1 0 46 a = iI l) (h2 : l ≠ 0 → τ.1 0 47 a = iI n) (h3 : l = 2 → τ.1 0 48 a = iI s) : cHo (aSv h a l n s) τ := by
  intro j hj
  have g := hh j hj
  rw [e 42 (Or.inl rfl), e 43 (Or.inr rfl), e2]
  refine ⟨g.1, g.2.1, g.2.2.1, ?_⟩
  show τ.1 0 46 j = iI (if j = a then l else h.2.2.2.1 j) ∧ ((if j = a then l else h.2.2.2.1 j) ≠ 0 → τ.1 0 47 j = iI (if j = a then n else h.2.2.2.2.1 j)) ∧ ((if j = a then l else h.2.2.2.1 j) = 2 → τ.1 0 48 j = iI (if j = a then s else h.2.2.2.2.2 j))
  by_cases q : j = a
  · subst q
    simp only [if_true]
    exact ⟨h1, h2, h3⟩
  · simp only [if_neg q]
    rw [(e3 j q).1, (e3 j q).2.1, (e3 j q).2.2]
    exact g.2.2.2
theorem mHo_sv {h : zXh} {a : Nat} {l n s : Int} {σ τ : zM} (hh : mHo h σ) (e : ∀ k, 73 ≤ k → k ≤ 75 → τ.1 0 k = σ.1 0 k) (e3 : ∀ j, j ≠ a → τ.1 0 76 j = σ.1 0 76 j ∧ τ.1 0 77 j = σ.1 0 77 j ∧ τ.1 0 78 j = σ.1 0 78 j) (h1 : τ.1 0 76 a = iI l) (h2 : l ≠ 0 → τ.1 0 77 a = iI n) (h3 : l = 2 → τ.1 0 78 a = iI s) : mHo (aSv h a l n s) τ := by
  intro j hj
  have g := hh j hj
  rw [e 73 (by decide) (by decide), e 74 (by decide) (by decide), e 75 (by decide) (by decide)]
  refine ⟨g.1, g.2.1, g.2.2.1, g.2.2.2.1, ?_⟩
  show τ.1 0 76 j = iI (if j = a then l else h.2.2.2.1 j) ∧ ((if j = a then l else h.2.2.2.1 j) ≠ 0 → τ.1 0 77 j = iI (if j = a then n else h.2.2.2.2.1 j)) ∧ ((if j = a then l else h.2.2.2.1 j) = 2 → τ.1 0 78 j = iI (if j = a then s else h.2.2.2.2.2 j))
  by_cases q : j = a
  · subst q
    simp only [if_true]
    exact ⟨h1, h2, h3⟩
  · simp only [if_neg q]
    rw [(e3 j q).1, (e3 j q).2.1, (e3 j q).2.2]
    exact g.2.2.2.2
theorem zm256_77 {d a : Nat} {w n : Int} {σ : zM} {l : Int32} (ha : a < 4) (hw : 0 ≤ w ∧ w ≤ 2) (hn : zrn n) (hn4 : w = 1 → 0 ≤ n ∧ n < 4) : zrun (zev d) zT_256 77 [some (.inr (.inr (0, 60))), some (.inl (iI a)), some (.inl (iI w)), some (.inl (iI n))] [.inl l, .inl (iI a), .inr (.inr (0, 76))] σ = some (1, 0, zwI (zwI (zwI σ 0 76 a l) 0 77 a (if w = 0 then iI n else if w = 1 then σ.1 0 74 n.toNat else 0)) 0 78 a (if w = 1 then σ.1 0 73 n.toNat else 0)) := by
  have hg : ∀ {y : zR}, zgd (zin (iI a) 4) y = y := fun {y} => zgd_t (iI_ink (z := a) (k := a) rfl ha (by decide))
  have hN : Int32.toNatClampNeg (iI a) = a := iI_Nn (by omega)
  have n2 : ¬ (iI 2 = 0) := by decide
  have n21 : ¬ (iI 2 = 1) := by decide
  rw [ez_256_77, hg, hN]
  rcases (by omega : w = 0 ∨ w = 1 ∨ w = 2) with rfl | rfl | rfl
  · rw [if_pos (show iI 0 = 0 from rfl), ez_256_106, hg, hN, if_neg (show ¬ iI 0 = 1 by decide), hg]
    rfl
  · obtain ⟨m, rfl⟩ := zint (hn4 rfl).1
    have hm : m < 4 := by have := (hn4 rfl).2; omega
    have hg2 : ∀ {y : zR}, zgd (zin (iI m) 4) y = y := fun {y} => zgd_t (iI_ink (z := m) (k := m) rfl hm (by decide))
    have hN2 : Int32.toNatClampNeg (iI m) = m := iI_Nn (by omega)
    rw [if_neg (show ¬ iI 1 = 0 by decide), if_pos (show iI 1 = 1 from rfl), hg2, ez_256_106, hg, hN, if_pos (show iI 1 = 1 from rfl), hg2, hg, hN2, zfe (by omega), zfe (by omega), zfe (by omega), if_neg (by decide), if_pos rfl, if_pos rfl, Int.toNat_natCast]
  · rw [if_neg n2, if_neg n21, ez_256_106, hg, hN, if_neg n21, hg]
    rfl
theorem zx_132 {x : zXx} (w : WX x) (a c n : Int) (ha : zrn a) (hc : zrn c) (hn : zrn n) : zCall 132 256 [.inl (iI a), .inl (iI c), .inl (iI n)] x := by
  have wh := w.2.2.2.2.1
  have b0 := w.1.1.1
  have b1 := w.1.1.2.1
  have m2 : ∀ {σ : zM}, zev 63 149 [.inr (.inl (Int32.toInt64 (iI c))), .inr (.inl 0), .inr (.inl 2)] σ = some (zB (decide (0 ≤ c ∧ c ≤ 2)), 0, σ) := zm149k (l := 0) (h := 2) hc (by decide) (by decide)
  have c0 : (iI c = 0) = (c = 0) := iI_0 hc
  have c1 : (iI c = 1) = (c = 1) := iI_eq (b := 1) hc (by decide)
  have c2 : (iI c = 2) = (c = 2) := iI_eq (b := 2) hc (by decide)
  by_cases q1 : 0 ≤ a ∧ a ≤ 3
  case neg =>
    refine zCq (-1) w (fun σ h => ?_) (fun σ h => ?_)
    · rw [ez_132]
      simp only [zc144 (d := 61) ha, zbs, zBi, decide_eq_false q1, cond_false]
      exact ⟨σ, rfl, zFr_r σ⟩
    · rw [ez_256]
      simp only [zm249 (d := 61) ha, zbs, zBi, decide_eq_false q1, cond_false]
      exact ⟨σ, rfl, zFr_r σ, h.1⟩
  case pos =>
  obtain ⟨j, rfl⟩ := zint q1.1
  have hj : j < 4 := by omega
  have hg : ∀ {y : zR}, zgd (zin (iI j) 4) y = y := fun {y} => zgd_t (iI_ink (z := j) (k := j) rfl hj (by decide))
  have hN : Int32.toNatClampNeg (iI j) = j := iI_Nn (by omega)
  by_cases q2 : 0 ≤ c ∧ c ≤ 2
  case neg =>
    refine zCq (-1) w (fun σ h => ?_) (fun σ h => ?_)
    · rw [ez_132]
      simp only [zc144 (d := 61) ha, zbs, zBi, decide_eq_true q1, cond_true, c0, c1, c2]
      rw [if_neg (by omega), if_neg (by omega), if_neg (by omega)]
      exact ⟨σ, rfl, zFr_r σ⟩
    · rw [ez_256]
      simp only [zm249 (d := 61) ha, m2, zbs, zBi, decide_eq_true q1, cond_true, decide_eq_false q2, cond_false]
      exact ⟨σ, rfl, zFr_r σ, h.1⟩
  case pos =>
  rcases (by omega : c = 0 ∨ c = 1 ∨ c = 2) with rfl | rfl | rfl
  · by_cases q3 : 0 ≤ n ∧ n < x.1 0
    · refine ⟨xsh x (aSv (xh x) j 1 n 0), 1, ⟨w.1, w.2.1, w.2.2.1, w.2.2.2.1, wH_sv wh (by omega) (by omega) (by omega), w.2.2.2.2.2⟩, fun σ h => ?_, fun σ h => ?_⟩
      · have e20 : zev 63 20 [.inr (.inr (0, 41)), .inl (iI j), .inl (iI n)] σ = some (0, 0, zwI (zwI σ 0 46 j 1) 0 47 j (iI n)) := by
          rw [ez_20]
          simp only [hg, hN]
        rw [ez_132]
        simp only [zc144 (d := 61) ha, zbs, zBi, decide_eq_true q1, cond_true, c0, if_true, zc13 (d := 62) h.1.1.1 ⟨b0, b1⟩ hn, decide_eq_true q3, e20]
        exact ⟨0, _, rfl, RC_h h (fun g k hk => by rw [zfn (by omega), zfn (by omega)]) (cHo_sv h.2.2.2.2.1 (fun k hk => by rw [zfn (by omega), zfn (by omega)]) rfl (fun i hi => ⟨by rw [zfe (by omega), zfe (by omega)], by rw [zfe (by omega), zfe (by omega)], by rw [zfe (by omega), zfe (by omega)]⟩) (by rw [zfe (by omega), zfs]; rfl) (fun _ => by rw [zfs]) (fun z => by omega))⟩
      · rw [ez_256]
        simp only [zm249 (d := 61) ha, m2, zbs, zBi, decide_eq_true q1, cond_true, decide_eq_true q2, c0, if_true, zm150 (d := 61) h.1 ⟨b0, b1⟩ hn, decide_eq_true q3]
        rw [ez_256_31, if_neg (show ¬ iI 0 = 1 by decide), ez_256_45, if_pos (show iI 0 = 0 from rfl), zm256_77 hj q2 hn (fun z => by omega)]
        exact ⟨0, _, rfl, RM_h h (fun k hk => by rw [zfn (by omega), zfn (by omega), zfn (by omega)]) (mHo_sv h.2.2.2.2.1 (fun k a b => by rw [zfn (by omega), zfn (by omega), zfn (by omega)]) (fun i hi => ⟨by rw [zfe (by omega), zfe (by omega), zfe (by omega)], by rw [zfe (by omega), zfe (by omega), zfe (by omega)], by rw [zfe (by omega), zfe (by omega), zfe (by omega)]⟩) (by rw [zfe (by omega), zfe (by omega), zfs]; rfl) (fun _ => by rw [zfe (by omega), zfs]; rfl) (fun z => by omega))⟩
    · refine zCq (-1) w (fun σ h => ?_) (fun σ h => ?_)
      · rw [ez_132]
        simp only [zc144 (d := 61) ha, zbs, zBi, decide_eq_true q1, cond_true, c0, if_true, zc13 (d := 62) h.1.1.1 ⟨b0, b1⟩ hn, decide_eq_false q3, cond_false]
        exact ⟨σ, rfl, zFr_r σ⟩
      · rw [ez_256]
        simp only [zm249 (d := 61) ha, m2, zbs, zBi, decide_eq_true q1, cond_true, decide_eq_true q2, c0, if_true, zm150 (d := 61) h.1 ⟨b0, b1⟩ hn, decide_eq_false q3, cond_false]
        exact ⟨σ, rfl, zFr_r σ, h.1⟩
  · by_cases q3 : 0 ≤ n ∧ n ≤ 3
    · obtain ⟨m, rfl⟩ := zint q3.1
      have hm : m < 4 := by omega
      have hg2 : ∀ {y : zR}, zgd (zin (iI m) 4) y = y := fun {y} => zgd_t (iI_ink (z := m) (k := m) rfl hm (by decide))
      have hN2 : Int32.toNatClampNeg (iI m) = m := iI_Nn (by omega)
      have u := wh m hm
      have e1 : (iI ((xh x).1 m) = -1) = ((xh x).1 m = -1) := by rw [zlitm1]; exact iI_eq (by omega) (by decide)
      refine ⟨xsh x (aSv (xh x) j (if (xh x).1 m = -1 then 0 else 2) ((xh x).2.1 m) ((xh x).1 m)), 1, ⟨w.1, w.2.1, w.2.2.1, w.2.2.2.1, wH_sv wh (by split <;> omega) ⟨u.2.2.1, u.2.2.2.1⟩ ⟨u.1, u.2.1⟩, w.2.2.2.2.2⟩, fun σ h => ?_, fun σ h => ?_⟩
      · have gm := h.2.2.2.2.1 m hm
        have e21 : zev 63 21 [.inr (.inr (0, 41)), .inl (iI j), .inl (iI m)] σ = some (0, 0, zwI (zwI (zwI σ 0 46 j (iI (if (xh x).1 m = -1 then 0 else 2))) 0 47 j (σ.1 0 43 m)) 0 48 j (σ.1 0 42 m)) := by
          rw [ez_21]
          simp only [hg2, hN2, gm.1, e1]
          by_cases q : (xh x).1 m = -1
          · rw [if_pos q, if_pos q, ez_21_20, hg, hg2, hg, hg2, hg, hN, hN2, zfe (by omega), zfe (by omega), zfe (by omega)]
            rw [gm.1]; rfl
          · rw [if_neg q, if_neg q, ez_21_20, hg, hg2, hg, hg2, hg, hN, hN2, zfe (by omega), zfe (by omega), zfe (by omega)]
            rw [gm.1]; rfl
        rw [ez_132]
        simp only [zc144 (d := 61) ha, zbs, zBi, decide_eq_true q1, cond_true, c0, c1, zc144 (d := 61) hn, decide_eq_true q3, e21]
        rw [if_neg (by decide), if_pos trivial]
        refine ⟨0, _, rfl, RC_h h (fun g k hk => by rw [zfn (by omega), zfn (by omega), zfn (by omega)]) (cHo_sv h.2.2.2.2.1 (fun k hk => by rw [zfn (by omega), zfn (by omega), zfn (by omega)]) rfl (fun i hi => ⟨by rw [zfe (by omega), zfe (by omega), zfe (by omega)], by rw [zfe (by omega), zfe (by omega), zfe (by omega)], by rw [zfe (by omega), zfe (by omega), zfe (by omega)]⟩) (by rw [zfe (by omega), zfe (by omega), zfs]) (fun z => ?_) (fun z => by rw [zfs]; exact gm.1))⟩
        rw [zfe (by omega), zfs]
        refine gm.2.1 ?_
        by_cases q : (xh x).1 m = -1
        · rw [if_pos q] at z; exact absurd rfl z
        · omega
      · have gm := h.2.2.2.2.1 m hm
        have t : zrun (zev 63) zT_256 45 [some (.inr (.inr (0, 60))), some (.inl (iI j)), some (.inl (iI 1)), some (.inl (iI m))] [] σ = zrun (zev 63) zT_256 77 [some (.inr (.inr (0, 60))), some (.inl (iI j)), some (.inl (iI 1)), some (.inl (iI m))] [.inl (iI (if (xh x).1 m = -1 then 0 else 2)), .inl (iI j), .inr (.inr (0, 76))] σ := by
          rw [ez_256_45, if_neg (show ¬ iI 1 = 0 by decide), if_pos (show iI 1 = 1 from rfl), hg2, hN2, gm.1]
          simp only [iI_lt0 (show zrn ((xh x).1 m) by omega)]
          by_cases q : (xh x).1 m = -1
          · rw [if_pos (by omega), if_pos q, ez_256_76]; rfl
          · rw [if_neg (by omega), if_neg q]; rfl
        rw [ez_256]
        simp only [zm249 (d := 61) ha, m2, zbs, zBi, decide_eq_true q1, cond_true, decide_eq_true q2, c0]
        rw [if_neg (by decide), ez_256_31, if_pos (show iI 1 = 1 from rfl), zm249 (d := 61) hn, decide_eq_true q3]
        simp only [zbs, zBi, cond_true]
        rw [t, zm256_77 hj q2 hn (fun _ => by omega)]
        refine ⟨0, _, rfl, RM_h h (fun k hk => by rw [zfn (by omega), zfn (by omega), zfn (by omega)]) (mHo_sv h.2.2.2.2.1 (fun k a b => by rw [zfn (by omega), zfn (by omega), zfn (by omega)]) (fun i hi => ⟨by rw [zfe (by omega), zfe (by omega), zfe (by omega)], by rw [zfe (by omega), zfe (by omega), zfe (by omega)], by rw [zfe (by omega), zfe (by omega), zfe (by omega)]⟩) (by rw [zfe (by omega), zfe (by omega), zfs]) (fun z => ?_) (fun z => by rw [zfs, if_pos rfl, Int.toNat_natCast]; exact gm.1))⟩
        rw [zfe (by omega), zfs, if_neg (by decide), if_pos rfl, Int.toNat_natCast]
        refine gm.2.1 ?_
        by_cases q : (xh x).1 m = -1
        · rw [if_pos q] at z; exact absurd rfl z
        · omega
    · refine zCq (-1) w (fun σ h => ?_) (fun σ h => ?_)
      · rw [ez_132]
        simp only [zc144 (d := 61) ha, zbs, zBi, decide_eq_true q1, cond_true, c0, c1, zc144 (d := 61) hn, decide_eq_false q3, cond_false]
        rw [if_neg (by decide), if_pos trivial]
        exact ⟨σ, rfl, zFr_r σ⟩
      · rw [ez_256]
        simp only [zm249 (d := 61) ha, m2, zbs, zBi, decide_eq_true q1, cond_true, decide_eq_true q2, c0]
        rw [if_neg (by decide), ez_256_31, if_pos (show iI 1 = 1 from rfl), zm249 (d := 61) hn, decide_eq_false q3]
        exact ⟨σ, rfl, zFr_r σ, h.1⟩
  · refine ⟨xsh x (aSv (xh x) j 0 0 0), 1, ⟨w.1, w.2.1, w.2.2.1, w.2.2.2.1, wH_sv wh (by omega) (by omega) (by omega), w.2.2.2.2.2⟩, fun σ h => ?_, fun σ h => ?_⟩
    · have e22 : zev 63 22 [.inr (.inr (0, 41)), .inl (iI j)] σ = some (0, 0, zwI σ 0 46 j 0) := by
        rw [ez_22]
        simp only [hg, hN]
      rw [ez_132]
      simp only [zc144 (d := 61) ha, zbs, zBi, decide_eq_true q1, cond_true, c0, c1, c2, e22]
      rw [if_neg (by decide), if_neg (by decide), if_pos trivial]
      exact ⟨0, _, rfl, RC_h h (fun g k hk => zfn (by omega)) (cHo_sv h.2.2.2.2.1 (fun k hk => zfn (by omega)) rfl (fun i hi => ⟨zfe (by omega), zfe (by omega), zfe (by omega)⟩) (by rw [zfs]; rfl) (fun z => absurd rfl z) (fun z => by omega))⟩
    · rw [ez_256]
      simp only [zm249 (d := 61) ha, m2, zbs, zBi, decide_eq_true q1, cond_true, decide_eq_true q2, c0]
      rw [if_neg (by decide), ez_256_31, if_neg (show ¬ iI 2 = 1 by decide), ez_256_45, if_neg (show ¬ iI 2 = 0 by decide), if_neg (show ¬ iI 2 = 1 by decide), ez_256_76, zm256_77 hj q2 hn (fun z => by omega)]
      exact ⟨0, _, rfl, RM_h h (fun k hk => by rw [zfn (by omega), zfn (by omega), zfn (by omega)]) (mHo_sv h.2.2.2.2.1 (fun k a b => by rw [zfn (by omega), zfn (by omega), zfn (by omega)]) (fun i hi => ⟨by rw [zfe (by omega), zfe (by omega), zfe (by omega)], by rw [zfe (by omega), zfe (by omega), zfe (by omega)], by rw [zfe (by omega), zfe (by omega), zfe (by omega)]⟩) (by rw [zfe (by omega), zfe (by omega), zfs]; rfl) (fun z => absurd rfl z) (fun z => by omega))⟩
def aOn (x : zXx) (j : Nat) : Int := if (xh x).2.2.2.1 j = 1 ∧ (xh x).2.2.2.2.1 j < x.1 0 then (xh x).2.2.2.2.1 j else -1
theorem aOn_r {x : zXx} (w : WX x) {j : Nat} (hj : j < 4) : -1 ≤ aOn x j ∧ aOn x j < x.1 0 := by
  have u := w.2.2.2.2.1 j hj
  have b0 := w.1.1.1
  unfold aOn
  split
  · have := u.2.2.2.2.2.2.2.1 (by omega)
    omega
  · omega
theorem zc137 {d j : Nat} {x : zXx} {σ : zM} (w : WX x) (h : RC x σ) (hj : j < 4) : zev (d + 2) 137 [.inr (.inr (0, 30)), .inl (iI j)] σ = some (iI (cE (aOn x j)), 0, σ) := by
  have u := w.2.2.2.2.1 j hj
  have g := h.2.2.2.2.1 j hj
  have hg : ∀ {y : zR}, zgd (zin (iI j) 4) y = y := fun {y} => zgd_t (iI_ink (z := j) (k := j) rfl hj (by decide))
  have hN : Int32.toNatClampNeg (iI j) = j := iI_Nn (by omega)
  have e1 : (iI ((xh x).2.2.2.1 j) = 1) = ((xh x).2.2.2.1 j = 1) := iI_eq (b := 1) (by omega) (by decide)
  have e23 : zev (d + 1) 23 [.inr (.inr (0, 41)), .inl (iI j)] σ = some (zB (decide ((xh x).2.2.2.1 j = 1)), 0, σ) := by
    rw [ez_23]
    simp only [hg, hN, g.2.2.2.1, e1]
    exact zB_d
  rw [ez_137]
  simp only [e23, zbs, zBi, if_true, hg, hN]
  unfold aOn
  by_cases q : (xh x).2.2.2.1 j = 1
  · have hn := u.2.2.2.2.2.2.2.1 (by omega)
    rw [decide_eq_true q, cond_true, g.2.2.2.2.1 (by omega), zc13 (d := d) h.1.1.1 ⟨w.1.1.1, w.1.1.2.1⟩ (by omega)]
    simp only [zbs, zBi]
    by_cases q2 : (xh x).2.2.2.2.1 j < x.1 0
    · rw [decide_eq_true (by omega), cond_true, if_neg (by decide), if_pos ⟨q, q2⟩, show cE ((xh x).2.2.2.2.1 j) = (xh x).2.2.2.2.1 j from if_neg (by omega)]
      rw [g.2.2.2.2.1 (by omega)]
    · rw [decide_eq_false (by omega), cond_false, if_neg (fun z => q2 z.2)]
      rfl
  · rw [decide_eq_false q, cond_false, if_neg (fun z => q z.1)]
    rfl
theorem zm257 {d : Nat} {a : Int} {x : zXx} {σ : zM} (w : WX x) (hS : mS 61 x.1 σ) (hH : mHo (xh x) σ) (ha : zrn a) : zev (d + 3) 257 [.inr (.inr (0, 60)), .inl (iI a)] σ = some (iI (if 0 ≤ a ∧ a ≤ 3 then aOn x a.toNat else -1), 0, σ) := by
  rw [ez_257]
  simp only [zm249 (d := d) ha, zbs, zBi]
  by_cases q0 : 0 ≤ a ∧ a ≤ 3
  case neg => rw [decide_eq_false q0, if_neg q0]; rfl
  case pos =>
  obtain ⟨j, rfl⟩ := zint q0.1
  have hj : j < 4 := by omega
  have u := w.2.2.2.2.1 j hj
  have g := hH j hj
  have hg : ∀ {y : zR}, zgd (zin (iI j) 4) y = y := fun {y} => zgd_t (iI_ink (z := j) (k := j) rfl hj (by decide))
  have hN : Int32.toNatClampNeg (iI j) = j := iI_Nn (by omega)
  have e1 : (iI ((xh x).2.2.2.1 j) = 1) = ((xh x).2.2.2.1 j = 1) := iI_eq (b := 1) (by omega) (by decide)
  rw [decide_eq_true q0, cond_true, if_pos q0, hg, hN, g.2.2.2.2.1, Int.toNat_natCast]
  simp only [e1]
  unfold aOn
  by_cases q : (xh x).2.2.2.1 j = 1
  · have hn := u.2.2.2.2.2.2.2.1 (by omega)
    rw [if_pos q, hg, g.2.2.2.2.2.1 (by omega), zm150 (d := d) hS ⟨w.1.1.1, w.1.1.2.1⟩ (by omega)]
    simp only [zbs, zBi]
    by_cases q2 : (xh x).2.2.2.2.1 j < x.1 0
    · rw [decide_eq_true (by omega), cond_true, hg, if_pos ⟨q, q2⟩, g.2.2.2.2.2.1 (by omega)]
    · rw [decide_eq_false (by omega), cond_false, if_neg (fun z => q2 z.2)]
      rfl
  · rw [if_neg q, if_neg (fun z => q z.1)]
    rfl
theorem zx_133 {x : zXx} (w : WX x) (a s : Int) (ha : zrn a) (hs : zrn s) : zCall 133 258 [.inl (iI a), .inl (iI s)] x := by
  have wh := w.2.2.2.2.1
  have b0 := w.1.1.1
  have b1 := w.1.1.2.1
  have c5 : ∀ {σ : zM}, zev 63 141 [.inl (iI s), .inl 0, .inl 5] σ = some (zB (decide (0 ≤ s ∧ s ≤ 5)), 0, σ) := zc141 (l := 0) (h := 5) hs (by decide) (by decide)
  have c14 : ∀ {σ : zM}, zev 63 141 [.inl (iI s), .inl 10, .inl 14] σ = some (zB (decide (10 ≤ s ∧ s ≤ 14)), 0, σ) := zc141 (l := 10) (h := 14) hs (by decide) (by decide)
  have m5 : ∀ {σ : zM}, zev 63 149 [.inr (.inl (Int32.toInt64 (iI s))), .inr (.inl 0), .inr (.inl 5)] σ = some (zB (decide (0 ≤ s ∧ s ≤ 5)), 0, σ) := zm149k (l := 0) (h := 5) hs (by decide) (by decide)
  have m14 : ∀ {σ : zM}, zev 63 149 [.inr (.inl (Int32.toInt64 (iI s))), .inr (.inl 10), .inr (.inl 14)] σ = some (zB (decide (10 ≤ s ∧ s ≤ 14)), 0, σ) := zm149k (l := 10) (h := 14) hs (by decide) (by decide)
  by_cases q1 : 0 ≤ a ∧ a ≤ 3
  case neg =>
    refine zCq (-1) w (fun σ h => ?_) (fun σ h => ?_)
    · rw [ez_133]
      simp only [c5, zc144 (d := 61) ha, zbs, zBi, decide_eq_false q1, cond_false]
      exact ⟨σ, rfl, zFr_r σ⟩
    · rw [ez_258]
      simp only [zm249 (d := 61) ha, zbs, zBi, decide_eq_false q1, cond_false]
      exact ⟨σ, rfl, zFr_r σ, h.1⟩
  case pos =>
  by_cases q2 : (0 ≤ s ∧ s ≤ 5) ∨ (10 ≤ s ∧ s ≤ 14)
  case neg =>
    refine zCq (-1) w (fun σ h => ?_) (fun σ h => ?_)
    · rw [ez_133]
      simp only [c5, zc144 (d := 61) ha, zbs, zBi, decide_eq_true q1, cond_true, decide_eq_false (show ¬ (0 ≤ s ∧ s ≤ 5) by omega), cond_false, c14, decide_eq_false (show ¬ (10 ≤ s ∧ s ≤ 14) by omega)]
      exact ⟨σ, rfl, zFr_r σ⟩
    · rw [ez_258]
      simp only [zm249 (d := 61) ha, m5, zbs, zBi, decide_eq_true q1, cond_true, decide_eq_false (show ¬ (0 ≤ s ∧ s ≤ 5) by omega), cond_false, m14, decide_eq_false (show ¬ (10 ≤ s ∧ s ≤ 14) by omega)]
      exact ⟨σ, rfl, zFr_r σ, h.1⟩
  case pos =>
  obtain ⟨j, rfl⟩ := zint q1.1
  have hj : j < 4 := by omega
  have u := wh j hj
  have hg : ∀ {y : zR}, zgd (zin (iI j) 4) y = y := fun {y} => zgd_t (iI_ink (z := j) (k := j) rfl hj (by decide))
  have hN : Int32.toNatClampNeg (iI j) = j := iI_Nn (by omega)
  have ho := aOn_r w hj
  have i10 : iI s - 10 = iI (s - 10) := iI_sub s 10
  have hc : ∀ σ, zev 64 133 [.inr (.inr (0, 30)), .inl (iI j), .inl (iI s)] σ = zrun (zev 63) zT_133 31 [some (.inr (.inr (0, 30))), some (.inl (iI j)), some (.inl (iI s)), some (.inl (zB (decide (0 ≤ s ∧ s ≤ 5)))), none] [] σ := fun σ => by
    rw [ez_133]
    simp only [c5, zc144 (d := 61) ha, zbs, zBi, decide_eq_true q1, cond_true, c14]
    by_cases q : 0 ≤ s ∧ s ≤ 5
    · rw [decide_eq_true q]; rfl
    · rw [decide_eq_false q, decide_eq_true (show 10 ≤ s ∧ s ≤ 14 by omega)]; rfl
  have hm : ∀ σ, zev 64 258 [.inr (.inr (0, 60)), .inl (iI j), .inl (iI s)] σ = zrun (zev 63) zT_258 35 [some (.inr (.inr (0, 60))), some (.inl (iI j)), some (.inl (iI s)), none, none] [] σ := fun σ => by
    rw [ez_258]
    simp only [zm249 (d := 61) ha, m5, zbs, zBi, decide_eq_true q1, cond_true, m14]
    by_cases q : 0 ≤ s ∧ s ≤ 5
    · rw [decide_eq_true q]; rfl
    · rw [decide_eq_false q, decide_eq_true (show 10 ≤ s ∧ s ≤ 14 by omega)]; rfl
  refine zCq (if (xh x).2.2.2.1 j = 2 then (if (xh x).2.2.2.2.2 j = s - 10 then iI ((xh x).2.2.2.2.1 j) else -13) else if aOn x j < 0 then -11 else if (0 ≤ s ∧ s ≤ 5) ∧ aUnd (x.1 (7 + 5 * (aOn x j).toNat)) s = true then iI (aOn x j) else -13) w (fun σ h => ?_) (fun σ h => ?_)
  · have g := h.2.2.2.2.1 j hj
    have e2 : (iI ((xh x).2.2.2.1 j) = 2) = ((xh x).2.2.2.1 j = 2) := iI_eq (b := 2) (by omega) (by decide)
    have e24 : zev 63 24 [.inr (.inr (0, 41)), .inl (iI j)] σ = some (zB (decide ((xh x).2.2.2.1 j = 2)), 0, σ) := by
      rw [ez_24]
      simp only [hg, hN, g.2.2.2.1, e2]
      exact zB_d
    refine ⟨σ, ?_, zFr_r σ⟩
    rw [hc, ez_133_31, e24]
    simp only [zbs, zBi, hg, hN, i10]
    by_cases q3 : (xh x).2.2.2.1 j = 2
    · rw [decide_eq_true q3, cond_true, if_pos q3, g.2.2.2.2.2 q3]
      simp only [iI_eq (show zrn ((xh x).2.2.2.2.2 j) by omega) (show zrn (s - 10) by omega)]
      by_cases q4 : (xh x).2.2.2.2.2 j = s - 10
      · rw [if_pos q4, if_pos q4, g.2.2.2.2.1 (by omega)]
      · rw [if_neg q4, if_neg q4]
    · rw [decide_eq_false q3, cond_false, if_neg q3, zc137 (d := 61) w h hj]
      have hcz : zrn (cE (aOn x j)) := by unfold cE; split <;> omega
      simp only [zbs, iI_n9 hcz]
      by_cases q5 : aOn x j < 0
      · rw [if_pos (show cE (aOn x j) = -9 from if_pos q5), if_pos q5]
      · have hce : cE (aOn x j) = aOn x j := if_neg q5
        obtain ⟨b, hb⟩ := zint (show 0 ≤ aOn x j by omega)
        have w2 := w.1.1.2.2 b (by omega)
        rw [hce, if_neg (by omega), if_neg q5, hb, Int.toNat_natCast, zgd_t (iI_ink (z := b) (k := b) rfl (show b < 9 by omega) (by decide)), iI_Nn (show b ≤ 2147483647 by omega), (h.1.1.2 b (by omega)).1]
        by_cases q6 : 0 ≤ s ∧ s ≤ 5
        · rw [decide_eq_true q6, cond_true, zc146 (d := 62) (show 0 ≤ x.1 (7 + 5 * b) ∧ x.1 (7 + 5 * b) ≤ 5 by omega) q6]
          simp only [zbs, zBi]
          cases q7 : aUnd (x.1 (7 + 5 * b)) s
          · rw [if_neg (fun z => by cases z.2)]; rfl
          · rw [if_pos ⟨q6, rfl⟩]; rfl
        · rw [decide_eq_false q6, cond_false, if_neg (fun z => q6 z.1)]
  · have g := h.2.2.2.2.1 j hj
    have e257 : zev 63 257 [.inr (.inr (0, 60)), .inl (iI j)] σ = some (iI (aOn x j), 0, σ) := by
      have := zm257 (d := 60) w h.1 h.2.2.2.2.1 ha
      rw [if_pos q1, Int.toNat_natCast] at this
      exact this
    have e2 : (iI ((xh x).2.2.2.1 j) < 2) = ((xh x).2.2.2.1 j < 2) := iI_lt (b := 2) (by omega) (by decide)
    have e6 : (iI s < 6) = (s < 6) := iI_lt (b := 6) hs (by decide)
    refine ⟨σ, ?_, zFr_r σ, h.1⟩
    have z1 : ¬ ((1 : Nat) = 0) := by decide
    have aon2 : (xh x).2.2.2.1 j = 2 → aOn x j = -1 := fun q => if_neg (fun z => by omega)
    rw [hm, ez_258_35, e257]
    simp only [zbs, iI_lt0 (show zrn (aOn x j) by omega), hg, hN, g.2.2.2.2.1, e2]
    by_cases q3 : (xh x).2.2.2.1 j = 2
    · have q3' := aon2 q3
      rw [if_pos (by omega), if_neg (by omega), if_pos q3, ez_258_58, if_pos (by rw [q3']; decide), hg, hN, g.2.2.2.2.2.2 q3, i10, hg, g.2.2.2.2.2.1 (by omega)]
      simp only [iI_eq (show zrn (s - 10) by omega) (show zrn ((xh x).2.2.2.2.2 j) by omega)]
      by_cases q4 : (xh x).2.2.2.2.2 j = s - 10
      · rw [if_pos q4.symm, if_neg z1, if_pos q4]
      · rw [if_neg (fun z => q4 z.symm), if_pos trivial, if_neg q4]
    · rw [if_neg q3]
      by_cases q5 : aOn x j < 0
      · rw [if_pos q5, if_pos (by omega), if_pos q5]
      · obtain ⟨b, hb⟩ := zint (show 0 ≤ aOn x j by omega)
        have w2 := w.1.1.2.2 b (by omega)
        have hnum : (xh x).2.2.2.2.1 j = b ∧ (xh x).2.2.2.1 j = 1 := by
          unfold aOn at hb
          split at hb
          · rename_i z; exact ⟨hb, z.1⟩
          · omega
        have e56 := zm156 (d := 61) (b := b) (w := 0) h.1 (by omega)
        have e56 : zev 63 156 [.inr (.inr (0, 60)), .inl (iI b), .inl 0] σ = some (iI (x.1 (7 + 5 * b)), 0, σ) := e56
        rw [if_neg q5, if_neg q5, ez_258_58, hb, if_neg (by rw [iI_lt0 (by omega)]; omega), Int.toNat_natCast]
        simp only [e6, e56, zbs]
        by_cases q6 : 0 ≤ s ∧ s ≤ 5
        · rw [if_pos (by omega), zm161 (d := 62) (show 0 ≤ x.1 (7 + 5 * b) ∧ x.1 (7 + 5 * b) ≤ 5 by omega) q6]
          simp only [zbs, zBi]
          cases q7 : aUnd (x.1 (7 + 5 * b)) s
          · rw [cond_false, if_pos trivial, if_neg (fun z => by cases z.2)]
          · rw [cond_true, if_neg z1, hg, hN, g.2.2.2.2.2.1 (by omega), hnum.1, if_pos ⟨q6, rfl⟩]
        · rw [if_neg (by omega), if_pos trivial, if_neg (fun z => q6 z.1)]
def aCl (f : Nat → Int) (sz i : Int) (p : Nat) : Nat → Nat → zS → Int → zS × Int
  | 0, _, S, c => (S, c)
  | m + 1, k, S, c => if ¬ (0 ≤ i + k ∧ i + k < sz) then (S, -12) else if (0 ≤ f (i + k).toNat ∧ f (i + k).toNat < S 0) ∧ aBrk S (f (i + k).toNat).toNat = false then aCl f sz i p m (k + 1) (aSit S p (f (i + k).toNat)) (c + 1) else aCl f sz i p m (k + 1) S c
theorem zx_131 {x : zXx} (w : WX x) (p a i n : Int) (hp : zrn p) (ha : zrn a) (hi : zrn i) (hn : zrn n) : zCall 131 255 [.inl (iI p), .inl (iI a), .inl (iI i), .inl (iI n)] x := by
  have wh := w.2.2.2.2.1
  have b0 := w.1.1.1
  have b1 := w.1.1.2.1
  have wp := w.1.2.2.1
  have p0 := wp.1
  have p1 := wp.2.1
  have c20 : ∀ {σ : zM}, zev 63 141 [.inl (iI n), .inl 0, .inl 20] σ = some (zB (decide (0 ≤ n ∧ n ≤ 20)), 0, σ) := zc141 (l := 0) (h := 20) hn (by decide) (by decide)
  have m20 : ∀ {σ : zM}, zev 63 149 [.inr (.inl (Int32.toInt64 (iI n))), .inr (.inl 0), .inr (.inl 20)] σ = some (zB (decide (0 ≤ n ∧ n ≤ 20)), 0, σ) := zm149k (l := 0) (h := 20) hn (by decide) (by decide)
  by_cases q0 : 0 ≤ p ∧ p < x.1 2
  case neg =>
    refine zCq (-1) w (fun σ h => ?_) (fun σ h => ?_)
    · rw [ez_131]
      simp only [zc37 h.1.2.2.2.1.1 ⟨p0, p1⟩ hp, zbs, zBi, decide_eq_false q0, cond_false]
      exact ⟨σ, rfl, zFr_r σ⟩
    · rw [ez_255]
      simp only [zm151 (d := 61) h.1 ⟨p0, p1⟩ hp, zbs, zBi, decide_eq_false q0, cond_false]
      exact ⟨σ, rfl, zFr_r σ, h.1⟩
  case pos =>
  by_cases q1 : 0 ≤ a ∧ a ≤ 3
  case neg =>
    refine zCq (-1) w (fun σ h => ?_) (fun σ h => ?_)
    · rw [ez_131]
      simp only [zc37 h.1.2.2.2.1.1 ⟨p0, p1⟩ hp, zc144 (d := 61) ha, zbs, zBi, decide_eq_true q0, cond_true, decide_eq_false q1, cond_false]
      exact ⟨σ, rfl, zFr_r σ⟩
    · rw [ez_255]
      simp only [zm151 (d := 61) h.1 ⟨p0, p1⟩ hp, zm249 (d := 61) ha, zbs, zBi, decide_eq_true q0, cond_true, decide_eq_false q1, cond_false]
      exact ⟨σ, rfl, zFr_r σ, h.1⟩
  case pos =>
  by_cases q2 : 0 ≤ n ∧ n ≤ 20
  case neg =>
    refine zCq (-1) w (fun σ h => ?_) (fun σ h => ?_)
    · rw [ez_131]
      simp only [zc37 h.1.2.2.2.1.1 ⟨p0, p1⟩ hp, zc144 (d := 61) ha, c20, zbs, zBi, decide_eq_true q0, decide_eq_true q1, cond_true, decide_eq_false q2, cond_false]
      exact ⟨σ, rfl, zFr_r σ⟩
    · rw [ez_255]
      simp only [zm151 (d := 61) h.1 ⟨p0, p1⟩ hp, zm249 (d := 61) ha, m20, zbs, zBi, decide_eq_true q0, decide_eq_true q1, cond_true, decide_eq_false q2, cond_false]
      exact ⟨σ, rfl, zFr_r σ, h.1⟩
  case pos =>
  obtain ⟨P, rfl⟩ := zint q0.1
  obtain ⟨j, rfl⟩ := zint q1.1
  obtain ⟨N', rfl⟩ := zint q2.1
  have hj : j < 4 := by omega
  have hP : P < (x.1 2).toNat := by omega
  have u := wh j hj
  have z0 : zrn 0 := by decide
  by_cases q3 : (xh x).1 j = 0
  case neg =>
    refine zCq (if (xh x).1 j = -1 then -11 else if (xh x).1 j = 0 then 0 else -13) w (fun σ h => ?_) (fun σ h => ?_)
    · have e18 := zc18 (d := 62) (s := 0) h.2.2.2.2.1 wh hj z0
      have e18 : zev 63 18 [.inr (.inr (0, 41)), .inl (iI j), .inl 0] σ = _ := e18
      rw [ez_131]
      simp only [zc37 h.1.2.2.2.1.1 ⟨p0, p1⟩ hp, zc144 (d := 61) ha, c20, zbs, zBi, decide_eq_true q0, decide_eq_true q1, cond_true, decide_eq_true q2, e18]
      refine ⟨σ, ?_, zFr_r σ⟩
      rw [if_neg]
      by_cases q : (xh x).1 j = -1
      · rw [if_pos q]; decide
      · rw [if_neg q, if_neg q3]; decide
    · have e53 := zm253 (d := 62) (s := 0) h.2.2.2.2.1 wh hj z0
      have e53 : zev 63 253 [.inr (.inr (0, 60)), .inl (iI j), .inl 0] σ = _ := e53
      rw [ez_255]
      simp only [zm151 (d := 61) h.1 ⟨p0, p1⟩ hp, zm249 (d := 61) ha, m20, zbs, zBi, decide_eq_true q0, decide_eq_true q1, cond_true, decide_eq_true q2, e53]
      refine ⟨σ, ?_, zFr_r σ, h.1⟩
      rw [if_neg]
      by_cases q : (xh x).1 j = -1
      · rw [if_pos q]; decide
      · rw [if_neg q, if_neg q3]; decide
  case pos =>
  have h0 : 0 ≤ (xh x).1 j := by omega
  have v0 : (if (xh x).1 j = -1 then (-11 : Int32) else if (xh x).1 j = 0 then 0 else -13) = 0 := by rw [if_neg (by omega), if_pos q3]
  have hg : ∀ {y : zR}, zgd (zin (iI j) 4) y = y := fun {y} => zgd_t (iI_ink (z := j) (k := j) rfl hj (by decide))
  have hN : Int32.toNatClampNeg (iI j) = j := iI_Nn (by omega)
  have hgP : ∀ {y : zR}, zgd (zin (iI P) 8) y = y := fun {y} => zgd_t (iI_ink (z := P) (k := P) rfl (by omega) (by decide))
  have hNP : Int32.toNatClampNeg (iI P) = P := iI_Nn (by omega)
  have hcl := aCl ((xh x).2.2.1 j) ((xh x).2.1 j) i P N' 0 x.1 0
  have e1 : ∀ (k : Nat), 1 ≤ k → True := fun _ _ => trivial
  have wAll : ∀ (m k : Nat) (S : zS) (c : Int), wA S → S 0 = x.1 0 → S 2 = x.1 2 → wA (aCl ((xh x).2.2.1 j) ((xh x).2.1 j) i P m k S c).1 := by
    intro m
    induction m with
    | zero => intro k S c hS _ _; exact hS
    | succ m ih =>
      intro k S c hS hS0 hS2
      unfold aCl
      split
      · exact hS
      · split
        · rename_i z
          exact ih _ _ _ (aSit_w hS (by rw [hS2]; exact hP) ⟨by omega, z.1.2⟩) ((aSit_n (by omega)).trans hS0) ((aSit_n (by omega)).trans hS2)
        · exact ih _ _ _ hS hS0 hS2
  have wKl : ∀ (m k : Nat) (S : zS) (c : Int) (u : Nat), u < 52 → (aCl ((xh x).2.2.1 j) ((xh x).2.1 j) i P m k S c).1 u = S u := by
    intro m
    induction m with
    | zero => intro k S c u _; rfl
    | succ m ih =>
      intro k S c u hu
      unfold aCl
      split
      · rfl
      · split
        · exact (ih _ _ _ u hu).trans (aSit_n (by omega))
        · exact ih _ _ _ u hu
  refine zCs (aCl ((xh x).2.2.1 j) ((xh x).2.1 j) i P N' 0 x.1 0).1 (iI (aCl ((xh x).2.2.1 j) ((xh x).2.1 j) i P N' 0 x.1 0).2) w (wAll N' 0 x.1 0 w.1 rfl rfl) (wK_c w.2.2.2.2.2.2.1 w.1.1 (wKl N' 0 x.1 0 0 (by decide)) (fun u _ hu _ => wKl N' 0 x.1 0 u hu)) (fun σ h => ?_) (fun σ h => ?_)
  · have e18 := zc18 (d := 62) (s := 0) h.2.2.2.2.1 wh hj z0
    rw [v0] at e18
    have e18 : zev 63 18 [.inr (.inr (0, 41)), .inl (iI j), .inl 0] σ = _ := e18
    have key : ∀ (m k : Nat) (S : zS) (c : Int) (τ : zM) (d5 d8 : Option zV), k + m = N' → (k = 0 ∨ i < 40) → 0 ≤ c → c ≤ k → wA S → S 0 = x.1 0 → S 2 = x.1 2 → cA 0 S τ → cHo (xh x) τ → ∃ υ, zrun (zev 63) zT_131 59 [some (.inr (.inr (0, 30))), some (.inl (iI P)), some (.inl (iI j)), some (.inl (iI i)), some (.inl (iI N')), d5, some (.inl (iI c)), some (.inl (iI k)), d8] [] τ = some (iI (aCl ((xh x).2.2.1 j) ((xh x).2.1 j) i P m k S c).2, 0, υ) ∧ zFr WD τ υ ∧ cA 0 (aCl ((xh x).2.2.1 j) ((xh x).2.1 j) i P m k S c).1 υ := by
      intro m
      induction m with
      | zero =>
        intro k S c τ d5 d8 hk _ hc hck hw hS0 hS2 hA hH
        rw [ez_131_59, if_neg (by rw [iI_lt (by omega) (by omega)]; omega)]
        exact ⟨τ, rfl, zFr_r τ, hA⟩
      | succ m ih =>
        intro k S c τ d5 d8 hk hki hc hck hw hS0 hS2 hA hH
        have hik : zrn (i + k) := by omega
        have e : aCl ((xh x).2.2.1 j) ((xh x).2.1 j) i P (m + 1) k S c = if ¬ (0 ≤ i + k ∧ i + k < (xh x).2.1 j) then (S, -12) else if (0 ≤ (xh x).2.2.1 j (i + k).toNat ∧ (xh x).2.2.1 j (i + k).toNat < S 0) ∧ aBrk S ((xh x).2.2.1 j (i + k).toNat).toNat = false then aCl ((xh x).2.2.1 j) ((xh x).2.1 j) i P m (k + 1) (aSit S P ((xh x).2.2.1 j (i + k).toNat)) (c + 1) else aCl ((xh x).2.2.1 j) ((xh x).2.1 j) i P m (k + 1) S c := rfl
        rw [ez_131_59, if_pos (by rw [iI_lt (by omega) (by omega)]; omega), iI_add, zc19 (d := 62) hH wh hj h0 hik]
        simp only [zbs, zBi]
        by_cases q4 : 0 ≤ i + k ∧ i + k < (xh x).2.1 j
        case neg =>
          rw [if_pos q4] at e
          rw [decide_eq_false q4, cond_false, e]
          exact ⟨τ, rfl, zFr_r τ, hA⟩
        case pos =>
          rw [if_neg (fun z => z q4)] at e
          obtain ⟨t, ht⟩ := zint q4.1
          rw [ht] at q4 e ⊢
          rw [Int.toNat_natCast] at e
          have ht4 : t < 40 := by omega
          have hzt := u.2.2.2.2.1 t ht4
          rw [decide_eq_true q4, cond_true, hg, zgd_t (iI_ink (z := t) (k := t) rfl ht4 (by decide)), hN, iI_Nn (show t ≤ 2147483647 by omega), (hH j hj).2.2.1 h0 t ht4, lI_32, zc14 (d := 61) hA.1 hA.2.1 hw.1 hzt]
          simp only [zbs, zBi, hgP, hNP, hki1, iI_a1]
          by_cases q5 : (0 ≤ (xh x).2.2.1 j t ∧ (xh x).2.2.1 j t < S 0) ∧ aBrk S ((xh x).2.2.1 j t).toNat = false
          · rw [if_pos q5] at e
            rw [decide_eq_true q5.1, q5.2, e]
            have hA2 := cA_sit (p := P) (z := (xh x).2.2.1 j t) hA hw (by omega)
            rw [show cE ((xh x).2.2.1 j t) = (xh x).2.2.1 j t from if_neg (by omega)] at hA2
            obtain ⟨υ, g1, g2, g3⟩ := ih (k + 1) (aSit S P ((xh x).2.2.1 j t)) (c + 1) _ none (some (.inl (iI ((xh x).2.2.1 j t)))) (by omega) (by omega) (by omega) (by omega) (aSit_w hw (by rw [hS2]; exact hP) ⟨by omega, q5.1.2⟩) ((aSit_n (by omega)).trans hS0) ((aSit_n (by omega)).trans hS2) hA2 (cHo_f hH (fun k a b => zfn (by omega)) rfl)
            exact ⟨υ, g1, zFr_tt (zFr_w (by omega)) g2, g3⟩
          · rw [if_neg q5] at e
            rw [e]
            have hx : (decide (0 ≤ (xh x).2.2.1 j t ∧ (xh x).2.2.1 j t < S 0) && !aBrk S ((xh x).2.2.1 j t).toNat) = false := by
              by_cases q6 : 0 ≤ (xh x).2.2.1 j t ∧ (xh x).2.2.1 j t < S 0
              · cases q7 : aBrk S ((xh x).2.2.1 j t).toNat
                · exact absurd ⟨q6, q7⟩ q5
                · rw [Bool.not_true, Bool.and_false]
              · rw [decide_eq_false q6, Bool.false_and]
            rw [hx, cond_false]
            exact ih (k + 1) S c τ none _ (by omega) (by omega) (by omega) (by omega) hw hS0 hS2 hA hH
    obtain ⟨υ, g1, g2, g3⟩ := key N' 0 x.1 0 σ (some (.inl 0)) none (by omega) (Or.inl rfl) (by omega) (by omega) w.1 rfl rfl h.1 h.2.2.2.2.1
    rw [ez_131]
    simp only [zc37 h.1.2.2.2.1.1 ⟨p0, p1⟩ hp, zc144 (d := 61) ha, c20, zbs, zBi, decide_eq_true q0, decide_eq_true q1, cond_true, decide_eq_true q2, e18, if_true]
    exact ⟨υ, g1, g2, g3⟩
  · have e53 := zm253 (d := 62) (s := 0) h.2.2.2.2.1 wh hj z0
    rw [v0] at e53
    have e53 : zev 63 253 [.inr (.inr (0, 60)), .inl (iI j), .inl 0] σ = _ := e53
    have key : ∀ (m k : Nat) (S : zS) (c : Int) (τ : zM) (d5 d8 : Option zV), k + m = N' → (k = 0 ∨ i < 40) → 0 ≤ c → c ≤ k → wA S → S 0 = x.1 0 → S 2 = x.1 2 → mS 61 S τ → mHo (xh x) τ → ∃ υ, zrun (zev 63) zT_255 52 [some (.inr (.inr (0, 60))), some (.inl (iI P)), some (.inl (iI j)), some (.inl (iI i)), some (.inl (iI N')), d5, some (.inl (iI c)), some (.inl (iI k)), d8] [] τ = some (iI (aCl ((xh x).2.2.1 j) ((xh x).2.1 j) i P m k S c).2, 0, υ) ∧ zFr WM τ υ ∧ mS 61 (aCl ((xh x).2.2.1 j) ((xh x).2.1 j) i P m k S c).1 υ := by
      intro m
      induction m with
      | zero =>
        intro k S c τ d5 d8 hk _ hc hck hw hS0 hS2 hS hH
        rw [ez_255_52, if_neg (by rw [iI_lt (by omega) (by omega)]; omega)]
        exact ⟨τ, rfl, zFr_r τ, hS⟩
      | succ m ih =>
        intro k S c τ d5 d8 hk hki hc hck hw hS0 hS2 hS hH
        have hik : zrn (i + k) := by omega
        have e : aCl ((xh x).2.2.1 j) ((xh x).2.1 j) i P (m + 1) k S c = if ¬ (0 ≤ i + k ∧ i + k < (xh x).2.1 j) then (S, -12) else if (0 ≤ (xh x).2.2.1 j (i + k).toNat ∧ (xh x).2.2.1 j (i + k).toNat < S 0) ∧ aBrk S ((xh x).2.2.1 j (i + k).toNat).toNat = false then aCl ((xh x).2.2.1 j) ((xh x).2.1 j) i P m (k + 1) (aSit S P ((xh x).2.2.1 j (i + k).toNat)) (c + 1) else aCl ((xh x).2.2.1 j) ((xh x).2.1 j) i P m (k + 1) S c := rfl
        have e64 : Int32.toInt64 (iI i) + Int32.toInt64 (iI k) = Int32.toInt64 (iI (i + k)) := by
          apply Int64.toInt_inj.mp
          rw [Int64.toInt_add, zt64 hi, zt64 (by omega), zt64 hik, Int.bmod_def]
          omega
        have a0 : ∀ z : Int, iI z + 0 = iI z := fun z => Int32.add_zero _
        rw [ez_255_52, if_pos (by rw [iI_lt (by omega) (by omega)]; omega), hg, hN, e64, zm149h (d := 62) hH wh hj h0 hik]
        simp only [zbs, zBi, a0, hki1, iI_a1]
        by_cases q4 : 0 ≤ i + k ∧ i + k < (xh x).2.1 j
        case neg =>
          rw [if_pos q4] at e
          rw [decide_eq_false q4, cond_false, e]
          exact ⟨τ, rfl, zFr_r τ, hS⟩
        case pos =>
          rw [if_neg (fun z => z q4)] at e
          obtain ⟨t, ht⟩ := zint q4.1
          have i0 : (40 : Int32) * iI j + iI i + iI k = iI ((40 * j + t : Nat) : Int) := by
            show iI 40 * iI j + iI i + iI k = _
            rw [iI_mul, iI_add, iI_add]; congr 1; omega
          rw [ht] at q4 e
          rw [ht]
          rw [Int.toNat_natCast] at e
          have ht4 : t < 40 := by omega
          have hzt := u.2.2.2.2.1 t ht4
          have hr := aSeat_r hw.2.2.1 (show P < (S 2).toNat by rw [hS2]; exact hP)
          have hb0 := hw.1.1
          have hb1 := hw.1.2.1
          have s0 := hw.2.2.1.1
          have s1 := hw.2.2.1.2.1
          have eM1 : ∀ z : Int, zrn z → (iI z = -1) = (z = -1) := fun z hz => by rw [zlitm1]; exact iI_eq hz (by decide)
          have eM4 : ∀ z : Int, zrn z → (iI z = -4) = (z = -4) := fun z hz => by rw [show (-4 : Int32) = iI (-4) by decide]; exact iI_eq hz (by decide)
          rw [decide_eq_true q4, cond_true, i0, zgd_t (iI_ink (z := ((40 * j + t : Nat) : Int)) (k := 40 * j + t) rfl (show 40 * j + t < 160 by omega) (by decide)), iI_Nn (show 40 * j + t ≤ 2147483647 by omega), (hH j hj).2.2.1 h0 t ht4]
          have e51 := zm151 (d := 60) (S := S) (z := P) (σ := τ) hS ⟨s0, s1⟩ (by omega)
          have e50 := zm150 (d := 60) (S := S) (z := (xh x).2.2.1 j t) (σ := τ) hS ⟨hb0, hb1⟩ hzt
          rw [decide_eq_true (show 0 ≤ (P : Int) ∧ (P : Int) < S 2 by rw [hS2]; omega)] at e51
          by_cases q6 : 0 ≤ (xh x).2.2.1 j t ∧ (xh x).2.2.1 j t < S 0
          · rw [decide_eq_true q6] at e50
            obtain ⟨b, hb⟩ := zint q6.1
            have w2 := hw.1.2.2 b (by omega)
            have e57 := zm157 (d := 59) (S := S) (b := b) (σ := τ) hS (by omega) (show 0 ≤ S (11 + 5 * b) ∧ S (11 + 5 * b) ≤ 1 by omega)
            rw [hb] at e50 e ⊢
            rw [Int.toNat_natCast] at e
            cases q7 : aBrk S b
            · rw [q7] at e57
              rw [if_pos ⟨by omega, q7⟩] at e
              have hcz : cE (aSeat S P) = -9 ∨ (0 ≤ cE (aSeat S P) ∧ cE (aSeat S P) ≤ 9) := by unfold cE; split <;> omega
              have e84 : zev 63 184 [.inr (.inr (0, 60)), .inl (iI P), .inl (iI b)] τ = some (iI (cE (aSeat S P)), 0, zwI τ 0 61 (54 + 3 * P) (iI ((b : Int) + 1))) := by
                rw [ez_184]
                simp only [e51, e50, e57, zbs, zBi, cond_true, cond_false, zm182 (d := 58) hS (show P < 8 by omega) ⟨hr.1, by omega⟩, zm180 (d := 60) (z := (b : Int)) (σ := τ) (show P < 8 by omega)]
              rw [e84, e]
              simp only [zbs, eM1 _ (show zrn (cE (aSeat S P)) by omega), eM4 _ (show zrn (cE (aSeat S P)) by omega)]
              rw [if_neg (by omega), if_neg (by omega)]
              obtain ⟨υ, g1, g2, g3⟩ := ih (k + 1) (aSit S P b) (c + 1) (zwI τ 0 61 (54 + 3 * P) (iI ((b : Int) + 1))) none (some (.inl (iI (cE (aSeat S P))))) (by omega) (by omega) (by omega) (by omega) (aSit_w hw (by rw [hS2]; exact hP) ⟨by omega, by omega⟩) ((aSit_n (by omega)).trans hS0) ((aSit_n (by omega)).trans hS2) (mS_up hS) (mHo_f hH (fun k a b => zfn (by omega)))
              exact ⟨υ, g1, zFr_tt (zFr_w (by omega)) g2, g3⟩
            · rw [q7] at e57
              rw [if_neg (fun z => by rw [q7] at z; cases z.2)] at e
              have e84 : zev 63 184 [.inr (.inr (0, 60)), .inl (iI P), .inl (iI b)] τ = some (-4, 0, τ) := by
                rw [ez_184]
                simp only [e51, e50, e57, zbs, zBi, cond_true]
              rw [e84, e]
              simp only [zbs]
              rw [if_neg (by decide), if_pos trivial]
              exact ih (k + 1) S c τ none _ (by omega) (by omega) (by omega) (by omega) hw hS0 hS2 hS hH
          · rw [decide_eq_false q6] at e50
            rw [if_neg (fun z => q6 z.1)] at e
            have e84 : zev 63 184 [.inr (.inr (0, 60)), .inl (iI P), .inl (iI ((xh x).2.2.1 j t))] τ = some (-1, 0, τ) := by
              rw [ez_184]
              simp only [e51, e50, zbs, zBi, cond_true, cond_false]
            rw [e84, e]
            simp only [zbs]
            rw [if_pos trivial]
            exact ih (k + 1) S c τ none _ (by omega) (by omega) (by omega) (by omega) hw hS0 hS2 hS hH
    obtain ⟨υ, g1, g2, g3⟩ := key N' 0 x.1 0 σ (some (.inl 0)) none (by omega) (Or.inl rfl) (by omega) (by omega) w.1 rfl rfl h.1 h.2.2.2.2.1
    rw [ez_255]
    simp only [zm151 (d := 61) h.1 ⟨p0, p1⟩ hp, zm249 (d := 61) ha, m20, zbs, zBi, decide_eq_true q0, decide_eq_true q1, cond_true, decide_eq_true q2, e53, if_true]
    exact ⟨υ, g1, g2, g3⟩
def aBg (pt : Bool) (t : zXt) (b : Int) : zXt := bif pt then t else (t.1 + 1, fun i => if i = t.1 then b else t.2 i)
theorem aBg_l {pt : Bool} {t : zXt} {b : Int} : (aBg pt t b).1 ≤ t.1 + 1 := by
  unfold aBg
  cases pt
  · exact Nat.le_refl _
  · exact Nat.le_succ _
theorem aBg_w {pt : Bool} {t : zXt} {b : Int} (h : ∀ i, i < t.1 → zrn (t.2 i)) (hb : zrn b) : ∀ i, i < (aBg pt t b).1 → zrn ((aBg pt t b).2 i) := by
  unfold aBg
  cases pt
  · intro i hi
    rw [cond_false] at hi ⊢
    show zrn (if i = t.1 then b else t.2 i)
    split
    · exact hb
    · exact h i (by have : i < t.1 + 1 := hi; omega)
  · exact h
def cQ (t : zXt) (pt : Bool) (k n a : Int) (σ : zM) : Prop := cAc t σ ∧ σ.1 0 49 2 = zB pt ∧ σ.1 0 49 3 = iI k ∧ σ.1 0 49 4 = iI n ∧ σ.1 0 49 5 = iI a
def mQ (t : zXt) (pt : Bool) (k n a : Int) (σ : zM) : Prop := mAc t σ ∧ σ.1 0 60 36 = zB pt ∧ σ.1 0 60 35 = iI k ∧ σ.1 0 60 33 = iI n ∧ σ.1 0 60 34 = iI a
abbrev WA : Nat → Nat → Nat → Prop := fun g k _ => g = 0 ∧ (k = 49 ∨ k = 50)
abbrev WB : Nat → Nat → Nat → Prop := fun g k i => g = 0 ∧ ((k = 60 ∧ (i = 32 ∨ i = 36)) ∨ k = 79)
theorem zc1 {d : Nat} {t : zXt} {pt : Bool} {k n a b : Int} {σ : zM} (h : cQ t pt k n a σ) (ht : t.1 < 30) : ∃ τ, zev (d + 1) 1 [.inr (.inr (0, 49)), .inl (iI b)] σ = some (0, 0, τ) ∧ zFr WA σ τ ∧ cQ (aBg pt t b) pt k n a τ := by
  obtain ⟨⟨h1, h2⟩, h3, h4, h5, h6⟩ := h
  rw [ez_1]
  simp only [h3, zBi]
  unfold aBg
  cases pt
  · rw [cond_false, cond_false, h1]
    have e30 : (iI (t.1 : Int) < 30) = ((t.1 : Int) < 30) := iI_lt (b := 30) (by omega) (by decide)
    simp only [e30, zgd_t (iI_ink (z := t.1) (k := t.1) rfl ht (by decide)), iI_Nn (show t.1 ≤ 2147483647 by omega)]
    rw [if_pos (by omega), zfe (by omega), h1, hki1]
    refine ⟨_, rfl, zFr_tt (zFr_w (by omega)) (zFr_w (by omega)), ⟨zfs, fun i hi => ?_⟩, by rw [zfe (by omega), zfe (by omega)]; exact h3, by rw [zfe (by omega), zfe (by omega)]; exact h4, by rw [zfe (by omega), zfe (by omega)]; exact h5, by rw [zfe (by omega), zfe (by omega)]; exact h6⟩
    show _ = iI (if i = t.1 then b else t.2 i)
    by_cases q : i = t.1
    · subst q; rw [if_pos rfl, zfe (by omega), zfs]
    · have : i < t.1 + 1 := hi
      rw [if_neg q, zfe (by omega), zfe (by omega)]; exact h2 i (by omega)
  · exact ⟨σ, rfl, zFr_r σ, ⟨h1, h2⟩, h3, h4, h5, h6⟩
theorem zm259 {d : Nat} {t : zXt} {pt : Bool} {k n a b : Int} {σ : zM} (h : mQ t pt k n a σ) (ht : t.1 < 30) : ∃ τ, zev (d + 1) 259 [.inr (.inr (0, 60)), .inl (iI b)] σ = some (0, 0, τ) ∧ zFr WB σ τ ∧ mQ (aBg pt t b) pt k n a τ := by
  obtain ⟨⟨h1, h2⟩, h3, h4, h5, h6⟩ := h
  rw [ez_259]
  simp only [h3, zBi]
  unfold aBg
  cases pt
  · rw [cond_false, cond_false, h1]
    have e30 : (iI (t.1 : Int) < 30) = ((t.1 : Int) < 30) := iI_lt (b := 30) (by omega) (by decide)
    simp only [e30, zgd_t (iI_ink (z := t.1) (k := t.1) rfl ht (by decide)), iI_Nn (show t.1 ≤ 2147483647 by omega)]
    rw [if_pos (by omega), zfe (by omega), h1, hki1]
    refine ⟨_, rfl, zFr_tt (zFr_w (by omega)) (zFr_w (by omega)), ⟨zfs, fun i hi => ?_⟩, by rw [zfe (by omega), zfe (by omega)]; exact h3, by rw [zfe (by omega), zfe (by omega)]; exact h4, by rw [zfe (by omega), zfe (by omega)]; exact h5, by rw [zfe (by omega), zfe (by omega)]; exact h6⟩
    show _ = iI (if i = t.1 then b else t.2 i)
    by_cases q : i = t.1
    · subst q; rw [if_pos rfl, zfe (by omega), zfs]
    · have : i < t.1 + 1 := hi
      rw [if_neg q, zfe (by omega), zfe (by omega)]; exact h2 i (by omega)
  · exact ⟨σ, rfl, zFr_r σ, ⟨h1, h2⟩, h3, h4, h5, h6⟩
def tSw (k : Int) (pt : Bool) (t : zXt) : zXt := aBg pt (if k = 1 then aBg pt t 20 else if k = 3 then aBg pt t 50 else t) 10
def vSw (k n : Int) (x : Int32) : Int32 := if k = 1 then (x + iI n) * 3 else if k = 3 then (x + iI n) ^^^ iI n else x + iI n
def tBd (k : Int) (pt : Bool) (t : zXt) : zXt := tSw k pt (aBg pt (if k = 2 ∨ k = 3 then aBg pt t 30 else if k = 5 then aBg pt t 60 else t) 11)
def vBd (k n a : Int) (x : Int32) : Int32 := if k = 2 ∨ k = 3 then vSw k n x * 2 - iI a else if k = 5 then 0 - vSw k n x * 2 else vSw k n x * 2
def pPs (n a : Int) (pt : Bool) : Bool := pt || decide (a = n)
def vPs (n a : Int) (x : Int32) : Int32 := if a = n then 0 else x / iI (a - n)
def tSh (k n a : Int) (pt : Bool) (t : zXt) : zXt := if k = 4 then aBg pt (aBg pt t 40) 12 else if k = 5 then tSw k (pPs n a pt) (aBg pt (aBg pt (aBg pt t 61) 40) 12) else aBg pt t 12
def vSh (k n a : Int) (x : Int32) : Int32 := if k = 4 then vPs n a (x + 1) else if k = 5 then vPs n a (x + 1) + vSw k n (iI a) else vPs n a x
def tTl (k n a : Int) (pt : Bool) (t : zXt) : zXt := if k = 3 then tSh k n a pt (tBd k pt (aBg pt (aBg pt t 51) 13)) else tBd k pt (aBg pt t 13)
def vTl (k n a : Int) (x : Int32) : Int32 := if k = 3 then (vBd k n a x ^^^ iI a) + vSh k n a (iI n) else vBd k n a x ^^^ iI a
theorem tSw_l {k : Int} {pt : Bool} {t : zXt} : (tSw k pt t).1 ≤ t.1 + 2 := by
  have h1 := aBg_l (pt := pt) (t := if k = 1 then aBg pt t 20 else if k = 3 then aBg pt t 50 else t) (b := 10)
  have h2 := aBg_l (pt := pt) (t := t) (b := 20)
  have h3 := aBg_l (pt := pt) (t := t) (b := 50)
  unfold tSw
  split at h1
  · rw [if_pos ‹_›]; omega
  · rw [if_neg ‹_›]
    split at h1
    · rw [if_pos ‹_›]; omega
    · rw [if_neg ‹_›]; omega
theorem ifn0 {k : Int} (hk : 1 ≤ k ∧ k ≤ 5) (j : Int) (hj : zrn j) : (iI k = iI j) = (k = j) := iI_eq (by omega) hj
theorem zc2 {d : Nat} {t : zXt} {pt : Bool} {k n a : Int} {x : Int32} {σ : zM} (hk : 1 ≤ k ∧ k ≤ 5) (h : cQ t pt k n a σ) (ht : t.1 < 28) : ∃ τ, zev (d + 3) 2 [.inr (.inr (0, 49)), .inl x] σ = some (vSw k n x, 0, τ) ∧ zFr WA σ τ ∧ cQ (tSw k pt t) pt k n a τ := by
  have e6 : ∀ (t : zXt) (σ : zM), cQ t pt k n a σ → t.1 < 30 → ∃ τ, zev (d + 2) 6 [.inr (.inr (0, 49)), .inl x] σ = some (x + iI n, 0, τ) ∧ zFr WA σ τ ∧ cQ (aBg pt t 10) pt k n a τ := by
    intro t σ h ht
    obtain ⟨τ, g1, g2, g3⟩ := zc1 (d := d) (b := 10) h ht
    have g1 : zev (d + 1) 1 [.inr (.inr (0, 49)), .inl 10] σ = _ := g1
    rw [ez_6]
    simp only [g1, zbs, g3.2.2.2.1]
    exact ⟨τ, rfl, g2, g3⟩
  have k1 : (iI k = 1) = (k = 1) := ifn0 hk 1 (by decide)
  have k3 : (iI k = 3) = (k = 3) := ifn0 hk 3 (by decide)
  rw [ez_2]
  simp only [h.2.2.1, k1, k3]
  unfold tSw vSw
  by_cases q1 : k = 1
  · obtain ⟨τ, g1, g2, g3⟩ := zc1 (d := d + 1) (b := 20) h (by omega)
    have g1 : zev (d + 2) 1 [.inr (.inr (0, 49)), .inl 20] σ = _ := g1
    obtain ⟨τ2, f1, f2, f3⟩ := e6 _ τ g3 (by have := aBg_l (pt := pt) (t := t) (b := 20); omega)
    simp only [if_pos q1, g1, f1, zbs]
    exact ⟨τ2, rfl, zFr_tt g2 f2, f3⟩
  · by_cases q3 : k = 3
    · obtain ⟨τ, g1, g2, g3⟩ := zc1 (d := d + 1) (b := 50) h (by omega)
      have g1 : zev (d + 2) 1 [.inr (.inr (0, 49)), .inl 50] σ = _ := g1
      obtain ⟨τ2, f1, f2, f3⟩ := e6 _ τ g3 (by have := aBg_l (pt := pt) (t := t) (b := 50); omega)
      simp only [if_neg q1, if_pos q3, g1, f1, zbs, f3.2.2.2.1]
      exact ⟨τ2, rfl, zFr_tt g2 f2, f3⟩
    · obtain ⟨τ2, f1, f2, f3⟩ := e6 _ σ h (by omega)
      simp only [if_neg q1, if_neg q3, f1, zbs]
      exact ⟨τ2, rfl, f2, f3⟩
theorem zm260 {d : Nat} {t : zXt} {pt : Bool} {k n a : Int} {x : Int32} {σ : zM} (hk : 1 ≤ k ∧ k ≤ 5) (h : mQ t pt k n a σ) (ht : t.1 < 28) : ∃ τ, zev (d + 2) 260 [.inr (.inr (0, 60)), .inl x] σ = some (vSw k n x, 0, τ) ∧ zFr WB σ τ ∧ mQ (tSw k pt t) pt k n a τ := by
  have e10 : ∀ (t : zXt) (σ : zM), mQ t pt k n a σ → t.1 < 30 → ∃ τ, zev (d + 1) 259 [.inr (.inr (0, 60)), .inl 10] σ = some (0, 0, τ) ∧ zFr WB σ τ ∧ mQ (aBg pt t 10) pt k n a τ := fun t σ h ht => zm259 (d := d) (b := 10) h ht
  have k1 : (iI k = 1) = (k = 1) := ifn0 hk 1 (by decide)
  have k3 : (iI k = 3) = (k = 3) := ifn0 hk 3 (by decide)
  rw [ez_260]
  simp only [h.2.2.1, k1, k3]
  unfold tSw vSw
  by_cases q1 : k = 1
  · obtain ⟨τ, g1, g2, g3⟩ := zm259 (d := d) (b := 20) h (by omega)
    have g1 : zev (d + 1) 259 [.inr (.inr (0, 60)), .inl 20] σ = _ := g1
    obtain ⟨τ2, f1, f2, f3⟩ := e10 _ τ g3 (by have := aBg_l (pt := pt) (t := t) (b := 20); omega)
    simp only [if_pos q1, g1, f1, zbs, f3.2.2.2.1]
    exact ⟨τ2, rfl, zFr_tt g2 f2, f3⟩
  · by_cases q3 : k = 3
    · obtain ⟨τ, g1, g2, g3⟩ := zm259 (d := d) (b := 50) h (by omega)
      have g1 : zev (d + 1) 259 [.inr (.inr (0, 60)), .inl 50] σ = _ := g1
      obtain ⟨τ2, f1, f2, f3⟩ := e10 _ τ g3 (by have := aBg_l (pt := pt) (t := t) (b := 50); omega)
      simp only [if_neg q1, if_pos q3, g1, f1, zbs, f3.2.2.2.1]
      exact ⟨τ2, rfl, zFr_tt g2 f2, f3⟩
    · obtain ⟨τ2, f1, f2, f3⟩ := e10 _ σ h (by omega)
      simp only [if_neg q1, if_neg q3, f1, zbs, f3.2.2.2.1]
      exact ⟨τ2, rfl, f2, f3⟩
theorem zc3 {d : Nat} {t : zXt} {pt : Bool} {k n a : Int} {x : Int32} {σ : zM} (hk : 1 ≤ k ∧ k ≤ 5) (h : cQ t pt k n a σ) (ht : t.1 < 26) : ∃ τ, zev (d + 5) 3 [.inr (.inr (0, 49)), .inl x] σ = some (vBd k n a x, 0, τ) ∧ zFr WA σ τ ∧ cQ (tBd k pt t) pt k n a τ := by
  have e7 : ∀ (t : zXt) (σ : zM), cQ t pt k n a σ → t.1 < 27 → ∃ τ, zev (d + 4) 7 [.inr (.inr (0, 49)), .inl x] σ = some (vSw k n x * 2, 0, τ) ∧ zFr WA σ τ ∧ cQ (tSw k pt (aBg pt t 11)) pt k n a τ := by
    intro t σ h ht
    obtain ⟨τ, g1, g2, g3⟩ := zc1 (d := d + 2) (b := 11) h (by omega)
    have g1 : zev (d + 3) 1 [.inr (.inr (0, 49)), .inl 11] σ = _ := g1
    obtain ⟨τ2, f1, f2, f3⟩ := zc2 (d := d) (x := x) hk g3 (by have := aBg_l (pt := pt) (t := t) (b := 11); omega)
    rw [ez_7]
    simp only [g1, f1, zbs]
    exact ⟨τ2, rfl, zFr_tt g2 f2, f3⟩
  have ks : ∀ j : Int, zrn j → (iI k = iI j) = (k = j) := ifn0 hk
  have k2 : (iI k = 2) = (k = 2) := ks 2 (by decide)
  have k3 : (iI k = 3) = (k = 3) := ks 3 (by decide)
  have k4 : (iI k = 4) = (k = 4) := ks 4 (by decide)
  have k5 : (iI k = 5) = (k = 5) := ks 5 (by decide)
  rw [ez_3]
  simp only [h.2.2.1, k2, k3, k4, k5]
  unfold tBd vBd
  by_cases q23 : k = 2 ∨ k = 3
  · obtain ⟨τ, g1, g2, g3⟩ := zc1 (d := d + 3) (b := 30) h (by omega)
    have g1 : zev (d + 4) 1 [.inr (.inr (0, 49)), .inl 30] σ = _ := g1
    obtain ⟨τ2, f1, f2, f3⟩ := e7 _ τ g3 (by have := aBg_l (pt := pt) (t := t) (b := 30); omega)
    rw [if_pos q23, if_pos q23]
    refine ⟨τ2, ?_, zFr_tt g2 f2, f3⟩
    by_cases q2 : k = 2
    · rw [if_pos q2]; simp only [g1, f1, zbs, f3.2.2.2.2]
    · rw [if_neg q2, if_pos (by omega)]; simp only [g1, f1, zbs, f3.2.2.2.2]
  · rw [if_neg q23, if_neg q23, if_neg (show ¬ k = 2 by omega), if_neg (show ¬ k = 3 by omega)]
    by_cases q5 : k = 5
    · obtain ⟨τ, g1, g2, g3⟩ := zc1 (d := d + 3) (b := 60) h (by omega)
      have g1 : zev (d + 4) 1 [.inr (.inr (0, 49)), .inl 60] σ = _ := g1
      obtain ⟨τ2, f1, f2, f3⟩ := e7 _ τ g3 (by have := aBg_l (pt := pt) (t := t) (b := 60); omega)
      rw [if_neg (show ¬ k = 4 by omega), if_pos q5, if_pos q5, if_pos q5]
      simp only [g1, f1, zbs]
      exact ⟨τ2, rfl, zFr_tt g2 f2, f3⟩
    · obtain ⟨τ2, f1, f2, f3⟩ := e7 _ σ h (by omega)
      rw [if_neg q5, if_neg q5, if_neg q5]
      refine ⟨τ2, ?_, f2, f3⟩
      by_cases q4 : k = 4
      · rw [if_pos q4]; simp only [f1, zbs]
      · rw [if_neg q4]; simp only [f1, zbs]
theorem zm261 {d : Nat} {t : zXt} {pt : Bool} {k n a : Int} {x : Int32} {σ : zM} (hk : 1 ≤ k ∧ k ≤ 5) (h : mQ t pt k n a σ) (ht : t.1 < 26) : ∃ τ, zev (d + 3) 261 [.inr (.inr (0, 60)), .inl x] σ = some (vBd k n a x, 0, τ) ∧ zFr WB σ τ ∧ mQ (tBd k pt t) pt k n a τ := by
  have ks : ∀ j : Int, zrn j → (iI k = iI j) = (k = j) := ifn0 hk
  have k2 : (iI k = 2) = (k = 2) := ks 2 (by decide)
  have k3 : (iI k = 3) = (k = 3) := ks 3 (by decide)
  have k5 : (iI k = 5) = (k = 5) := ks 5 (by decide)
  have e46 : ∀ (t : zXt) (σ : zM) (dr : Bool) (d3 : Option zV), mQ t pt k n a σ → t.1 < 27 → ∃ τ, zrun (zev (d + 2)) zT_261 46 [some (.inr (.inr (0, 60))), some (.inl x), some (.inl (zB dr)), d3] [] σ = some (bif dr then vSw k n x * 2 - iI a else if k = 5 then 0 - vSw k n x * 2 else vSw k n x * 2, 0, τ) ∧ zFr WB σ τ ∧ mQ (tSw k pt (aBg pt t 11)) pt k n a τ := by
    intro t σ dr d3 h ht
    obtain ⟨τ, g1, g2, g3⟩ := zm259 (d := d + 1) (b := 11) h (by omega)
    have g1 : zev (d + 2) 259 [.inr (.inr (0, 60)), .inl 11] σ = _ := g1
    obtain ⟨τ2, f1, f2, f3⟩ := zm260 (d := d) (x := x) hk g3 (by have := aBg_l (pt := pt) (t := t) (b := 11); omega)
    rw [ez_261_46]
    simp only [g1, f1, zbs, zBi, f3.2.2.1, k5, f3.2.2.2.2]
    refine ⟨τ2, ?_, zFr_tt g2 f2, f3⟩
    cases dr
    · rw [cond_false, cond_false]
      by_cases q5 : k = 5
      · rw [if_pos q5, if_pos q5]
      · rw [if_neg q5, if_neg q5]
    · rfl
  unfold tBd vBd
  by_cases q23 : k = 2 ∨ k = 3
  · obtain ⟨τ, g1, g2, g3⟩ := zm259 (d := d + 1) (b := 30) h (by omega)
    have g1 : zev (d + 2) 259 [.inr (.inr (0, 60)), .inl 30] σ = _ := g1
    obtain ⟨τ2, f1, f2, f3⟩ := e46 _ τ true none g3 (by have := aBg_l (pt := pt) (t := t) (b := 30); omega)
    have f1 : zrun (zev (d + 2)) zT_261 46 [some (.inr (.inr (0, 60))), some (.inl x), some (.inl 1), none] [] τ = some (vSw k n x * 2 - iI a, 0, τ2) := f1
    have t16 : zrun (zev (d + 2)) zT_261 16 [some (.inr (.inr (0, 60))), some (.inl x), none, none] [] σ = some (vSw k n x * 2 - iI a, 0, τ2) := by
      rw [ez_261_16, ez_261_21, if_neg (by decide), g1, zbs, ez_261_32, g3.2.2.1, if_neg (by rw [k5]; omega)]
      exact f1
    rw [if_pos q23, if_pos q23, ez_261, h.2.2.1]
    simp only [k2, k3]
    refine ⟨τ2, ?_, zFr_tt g2 f2, f3⟩
    by_cases q2 : k = 2
    · rw [if_pos q2]; exact t16
    · rw [if_neg q2, if_pos (by omega)]; exact t16
  · rw [if_neg q23, if_neg q23, ez_261, h.2.2.1]
    simp only [k2, k3]
    rw [if_neg (show ¬ k = 2 by omega), if_neg (show ¬ k = 3 by omega), ez_261_21, if_pos rfl, ez_261_32, h.2.2.1]
    simp only [k5]
    by_cases q5 : k = 5
    · obtain ⟨τ, g1, g2, g3⟩ := zm259 (d := d + 1) (b := 60) h (by omega)
      have g1 : zev (d + 2) 259 [.inr (.inr (0, 60)), .inl 60] σ = _ := g1
      obtain ⟨τ2, f1, f2, f3⟩ := e46 _ τ false none g3 (by have := aBg_l (pt := pt) (t := t) (b := 60); omega)
      have f1 : zrun (zev (d + 2)) zT_261 46 [some (.inr (.inr (0, 60))), some (.inl x), some (.inl 0), none] [] τ = some (if k = 5 then 0 - vSw k n x * 2 else vSw k n x * 2, 0, τ2) := f1
      rw [if_pos q5, if_pos q5, if_pos q5, g1, zbs, f1, if_pos q5]
      exact ⟨τ2, rfl, zFr_tt g2 f2, f3⟩
    · obtain ⟨τ2, f1, f2, f3⟩ := e46 _ σ false none h (by omega)
      have f1 : zrun (zev (d + 2)) zT_261 46 [some (.inr (.inr (0, 60))), some (.inl x), some (.inl 0), none] [] σ = some (if k = 5 then 0 - vSw k n x * 2 else vSw k n x * 2, 0, τ2) := f1
      rw [if_neg q5, if_neg q5, if_neg q5, f1, if_neg q5]
      exact ⟨τ2, rfl, f2, f3⟩
theorem zc9 {d : Nat} {t : zXt} {pt : Bool} {k n a : Int} {x : Int32} {σ : zM} (hn : zrn n) (ha : zrn a) (hd : zrn (a - n)) (h : cQ t pt k n a σ) (ht : t.1 < 30) : ∃ τ, zev (d + 2) 9 [.inr (.inr (0, 49)), .inl x] σ = some (vPs n a x, 0, τ) ∧ zFr WA σ τ ∧ cQ (aBg pt t 12) (pPs n a pt) k n a τ := by
  obtain ⟨τ, g1, g2, g3⟩ := zc1 (d := d) (b := 12) h ht
  have g1 : zev (d + 1) 1 [.inr (.inr (0, 49)), .inl 12] σ = _ := g1
  rw [ez_9]
  simp only [g1, zbs, g3.2.2.2.1, g3.2.2.2.2, iI_eq ha hn, iI_sub, iI_0 hd]
  unfold vPs pPs
  by_cases q : a = n
  · rw [if_pos q, if_pos q, zgd_t (by decide), decide_eq_true q, Bool.or_true]
    obtain ⟨⟨h1, h2⟩, h3, h4, h5, h6⟩ := g3
    exact ⟨_, rfl, zFr_tt g2 (zFr_w (by omega)), ⟨by rw [zfe (by omega)]; exact h1, fun i hi => by rw [zfe (by omega)]; exact h2 i hi⟩, by rw [zfs]; rfl, by rw [zfe (by omega)]; exact h4, by rw [zfe (by omega)]; exact h5, by rw [zfe (by omega)]; exact h6⟩
  · rw [if_neg q, if_neg q, if_neg (by omega), decide_eq_false q, Bool.or_false]
    exact ⟨τ, rfl, g2, g3⟩
theorem zm262 {d : Nat} {t : zXt} {pt : Bool} {k n a : Int} {x : Int32} {σ : zM} (hn : zrn n) (ha : zrn a) (hd : zrn (a - n)) (h : mQ t pt k n a σ) (ht : t.1 < 30) : ∃ τ, zev (d + 2) 262 [.inr (.inr (0, 60)), .inl x] σ = some (vPs n a x, 0, τ) ∧ zFr WB σ τ ∧ mQ (aBg pt t 12) (pPs n a pt) k n a τ := by
  obtain ⟨τ, g1, g2, g3⟩ := zm259 (d := d) (b := 12) h ht
  have g1 : zev (d + 1) 259 [.inr (.inr (0, 60)), .inl 12] σ = _ := g1
  rw [ez_262]
  simp only [g1, zbs, g3.2.2.2.1, g3.2.2.2.2, iI_eq ha hn, iI_sub, iI_0 hd]
  unfold vPs pPs
  by_cases q : a = n
  · rw [if_pos q, if_pos q, zgd_t (by decide), decide_eq_true q, Bool.or_true]
    obtain ⟨⟨h1, h2⟩, h3, h4, h5, h6⟩ := g3
    exact ⟨_, rfl, zFr_tt g2 (zFr_w (by omega)), ⟨by rw [zfe (by omega)]; exact h1, fun i hi => by rw [zfe (by omega)]; exact h2 i hi⟩, by rw [zfs]; rfl, by rw [zfe (by omega)]; exact h4, by rw [zfe (by omega)]; exact h5, by rw [zfe (by omega)]; exact h6⟩
  · rw [if_neg q, if_neg q, if_neg (by omega), decide_eq_false q, Bool.or_false]
    exact ⟨τ, rfl, g2, g3⟩
theorem tSw_t {k : Int} {t : zXt} : tSw k true t = t := by
  unfold tSw
  split
  · rfl
  · split <;> rfl
theorem zc8 {d : Nat} {t : zXt} {pt : Bool} {k n a : Int} {x : Int32} {σ : zM} (hn : zrn n) (ha : zrn a) (hd : zrn (a - n)) (h : cQ t pt k n a σ) (ht : t.1 < 29) : ∃ τ, zev (d + 3) 8 [.inr (.inr (0, 49)), .inl x] σ = some (vPs n a (x + 1), 0, τ) ∧ zFr WA σ τ ∧ cQ (aBg pt (aBg pt t 40) 12) (pPs n a pt) k n a τ := by
  obtain ⟨τ, g1, g2, g3⟩ := zc1 (d := d + 1) (b := 40) h (by omega)
  have g1 : zev (d + 2) 1 [.inr (.inr (0, 49)), .inl 40] σ = _ := g1
  obtain ⟨τ2, f1, f2, f3⟩ := zc9 (d := d) (x := x + 1) hn ha hd g3 (by have := aBg_l (pt := pt) (t := t) (b := 40); omega)
  rw [ez_8]
  simp only [g1, f1, zbs]
  exact ⟨τ2, rfl, zFr_tt g2 f2, f3⟩
theorem zc4 {d : Nat} {t : zXt} {pt : Bool} {k n a : Int} {x : Int32} {σ : zM} (hk : 1 ≤ k ∧ k ≤ 5) (hn : zrn n) (ha : zrn a) (hd : zrn (a - n)) (h : cQ t pt k n a σ) (ht : t.1 < 24) : ∃ τ, zev (d + 4) 4 [.inr (.inr (0, 49)), .inl x] σ = some (vSh k n a x, 0, τ) ∧ zFr WA σ τ ∧ cQ (tSh k n a pt t) (pPs n a pt) k n a τ := by
  have k4 : (iI k = 4) = (k = 4) := ifn0 hk 4 (by decide)
  have k5 : (iI k = 5) = (k = 5) := ifn0 hk 5 (by decide)
  rw [ez_4]
  simp only [h.2.2.1, k4, k5]
  unfold tSh vSh
  by_cases q4 : k = 4
  · obtain ⟨τ, g1, g2, g3⟩ := zc8 (d := d) (x := x) hn ha hd h (by omega)
    rw [if_pos q4, if_pos q4, if_pos q4, g1]
    exact ⟨τ, rfl, g2, g3⟩
  · rw [if_neg q4, if_neg q4, if_neg q4]
    by_cases q5 : k = 5
    · obtain ⟨τ, g1, g2, g3⟩ := zc1 (d := d + 2) (b := 61) h (by omega)
      have g1 : zev (d + 3) 1 [.inr (.inr (0, 49)), .inl 61] σ = _ := g1
      have l1 := aBg_l (pt := pt) (t := t) (b := 61)
      obtain ⟨τ2, f1, f2, f3⟩ := zc8 (d := d) (x := x) hn ha hd g3 (by omega)
      have l2 := aBg_l (pt := pt) (t := aBg pt t 61) (b := 40)
      have l3 := aBg_l (pt := pt) (t := aBg pt (aBg pt t 61) 40) (b := 12)
      obtain ⟨τ3, e1, e2, e3⟩ := zc2 (d := d) (x := iI a) hk f3 (by omega)
      rw [if_pos q5, if_pos q5, if_pos q5]
      simp only [g1, f1, zbs, f3.2.2.2.2, e1]
      exact ⟨τ3, rfl, zFr_tt (zFr_tt g2 f2) e2, e3⟩
    · obtain ⟨τ, g1, g2, g3⟩ := zc9 (d := d + 1) (x := x) hn ha hd h (by omega)
      rw [if_neg q5, if_neg q5, if_neg q5, g1]
      exact ⟨τ, rfl, g2, g3⟩
theorem zm263 {d : Nat} {t : zXt} {pt : Bool} {k n a : Int} {x : Int32} {σ : zM} (hk : 1 ≤ k ∧ k ≤ 5) (hn : zrn n) (ha : zrn a) (hd : zrn (a - n)) (h : mQ t pt k n a σ) (ht : t.1 < 24) : ∃ v τ, zev (d + 3) 263 [.inr (.inr (0, 60)), .inl x] σ = some (v, 0, τ) ∧ (pPs n a pt = false → v = vSh k n a x) ∧ zFr WB σ τ ∧ mQ (tSh k n a pt t) (pPs n a pt) k n a τ := by
  have k4 : (iI k = 4) = (k = 4) := ifn0 hk 4 (by decide)
  have k5 : (iI k = 5) = (k = 5) := ifn0 hk 5 (by decide)
  rw [ez_263]
  simp only [h.2.2.1, k4, k5]
  unfold tSh vSh
  by_cases q4 : k = 4
  · obtain ⟨τ, g1, g2, g3⟩ := zm259 (d := d + 1) (b := 40) h (by omega)
    have g1 : zev (d + 2) 259 [.inr (.inr (0, 60)), .inl 40] σ = _ := g1
    have l1 := aBg_l (pt := pt) (t := t) (b := 40)
    obtain ⟨τ2, f1, f2, f3⟩ := zm262 (d := d) (x := x + 1) hn ha hd g3 (by omega)
    rw [if_pos q4, if_pos q4, if_pos q4]
    simp only [g1, f1, zbs]
    exact ⟨_, τ2, rfl, fun _ => rfl, zFr_tt g2 f2, f3⟩
  · rw [if_neg q4, if_neg q4, if_neg q4]
    by_cases q5 : k = 5
    · obtain ⟨τ, g1, g2, g3⟩ := zm259 (d := d + 1) (b := 61) h (by omega)
      have g1 : zev (d + 2) 259 [.inr (.inr (0, 60)), .inl 61] σ = _ := g1
      have l1 := aBg_l (pt := pt) (t := t) (b := 61)
      obtain ⟨τ1, c1, c2, c3⟩ := zm259 (d := d + 1) (b := 40) g3 (by omega)
      have c1 : zev (d + 2) 259 [.inr (.inr (0, 60)), .inl 40] τ = _ := c1
      have l2 := aBg_l (pt := pt) (t := aBg pt t 61) (b := 40)
      obtain ⟨τ2, f1, f2, f3⟩ := zm262 (d := d) (x := x + 1) hn ha hd c3 (by omega)
      have l3 := aBg_l (pt := pt) (t := aBg pt (aBg pt t 61) 40) (b := 12)
      obtain ⟨τ3, e1, e2, e3⟩ := zm260 (d := d) (x := iI a) hk f3 (by omega)
      rw [if_pos q5, if_pos q5, if_pos q5]
      simp only [g1, c1, f1, zbs, f3.2.1, zBi, f3.2.2.2.2, e1]
      cases q : pPs n a pt
      · rw [q] at e3
        rw [cond_false]
        exact ⟨_, τ3, rfl, fun _ => rfl, zFr_tt (zFr_tt (zFr_tt g2 c2) f2) e2, e3⟩
      · rw [q] at f3
        rw [cond_true, tSw_t]
        exact ⟨_, τ2, rfl, (fun z => by cases z), zFr_tt (zFr_tt g2 c2) f2, f3⟩
    · obtain ⟨τ, g1, g2, g3⟩ := zm262 (d := d) (x := x) hn ha hd h (by omega)
      rw [if_neg q5, if_neg q5, if_neg q5, g1]
      exact ⟨_, τ, rfl, fun _ => rfl, g2, g3⟩
def pTl (k n a : Int) (pt : Bool) : Bool := if k = 3 then pPs n a pt else pt
theorem tBd_l {k : Int} {pt : Bool} {t : zXt} : (tBd k pt t).1 ≤ t.1 + 4 := by
  unfold tBd
  have l2 : (if k = 2 ∨ k = 3 then aBg pt t 30 else if k = 5 then aBg pt t 60 else t).1 ≤ t.1 + 1 := by
    split
    · exact aBg_l
    · split
      · exact aBg_l
      · exact Nat.le_succ _
  have l3 := aBg_l (pt := pt) (t := if k = 2 ∨ k = 3 then aBg pt t 30 else if k = 5 then aBg pt t 60 else t) (b := 11)
  have l4 := tSw_l (k := k) (pt := pt) (t := aBg pt (if k = 2 ∨ k = 3 then aBg pt t 30 else if k = 5 then aBg pt t 60 else t) 11)
  omega
theorem tSh_l {k n a : Int} {pt : Bool} {t : zXt} : (tSh k n a pt t).1 ≤ t.1 + 5 := by
  unfold tSh
  split
  · have l1 := aBg_l (pt := pt) (t := t) (b := 40)
    have l2 := aBg_l (pt := pt) (t := aBg pt t 40) (b := 12)
    omega
  · split
    · have l1 := aBg_l (pt := pt) (t := t) (b := 61)
      have l2 := aBg_l (pt := pt) (t := aBg pt t 61) (b := 40)
      have l3 := aBg_l (pt := pt) (t := aBg pt (aBg pt t 61) 40) (b := 12)
      have l4 := tSw_l (k := k) (pt := pPs n a pt) (t := aBg pt (aBg pt (aBg pt t 61) 40) 12)
      omega
    · have l1 := aBg_l (pt := pt) (t := t) (b := 12)
      omega
theorem zc5 {d : Nat} {t : zXt} {pt : Bool} {k n a : Int} {x : Int32} {σ : zM} (hk : 1 ≤ k ∧ k ≤ 5) (hn : zrn n) (ha : zrn a) (hd : zrn (a - n)) (h : cQ t pt k n a σ) (ht : t.1 < 14) : ∃ τ, zev (d + 7) 5 [.inr (.inr (0, 49)), .inl x] σ = some (vTl k n a x, 0, τ) ∧ zFr WA σ τ ∧ cQ (tTl k n a pt t) (pTl k n a pt) k n a τ := by
  have k3 : (iI k = 3) = (k = 3) := ifn0 hk 3 (by decide)
  have e10 : ∀ (t : zXt) (σ : zM), cQ t pt k n a σ → t.1 < 20 → ∃ τ, zev (d + 6) 10 [.inr (.inr (0, 49)), .inl x] σ = some (vBd k n a x ^^^ iI a, 0, τ) ∧ zFr WA σ τ ∧ cQ (tBd k pt (aBg pt t 13)) pt k n a τ := by
    intro t σ h ht
    obtain ⟨τ, g1, g2, g3⟩ := zc1 (d := d + 4) (b := 13) h (by omega)
    have g1 : zev (d + 5) 1 [.inr (.inr (0, 49)), .inl 13] σ = _ := g1
    have l1 := aBg_l (pt := pt) (t := t) (b := 13)
    obtain ⟨τ2, f1, f2, f3⟩ := zc3 (d := d) (x := x) hk g3 (by omega)
    rw [ez_10]
    simp only [g1, f1, zbs, f3.2.2.2.2]
    exact ⟨τ2, rfl, zFr_tt g2 f2, f3⟩
  rw [ez_5]
  simp only [h.2.2.1, k3]
  unfold tTl vTl pTl
  by_cases q : k = 3
  · obtain ⟨τ, g1, g2, g3⟩ := zc1 (d := d + 5) (b := 51) h (by omega)
    have g1 : zev (d + 6) 1 [.inr (.inr (0, 49)), .inl 51] σ = _ := g1
    have l1 := aBg_l (pt := pt) (t := t) (b := 51)
    obtain ⟨τ2, f1, f2, f3⟩ := e10 _ τ g3 (by omega)
    have l2 := aBg_l (pt := pt) (t := aBg pt t 51) (b := 13)
    have l3 := tBd_l (k := k) (pt := pt) (t := aBg pt (aBg pt t 51) 13)
    obtain ⟨τ3, e1, e2, e3⟩ := zc4 (d := d + 2) (x := iI n) hk hn ha hd f3 (by omega)
    rw [if_pos q, if_pos q, if_pos q, if_pos q]
    simp only [g1, f1, zbs, f3.2.2.2.1, e1]
    exact ⟨τ3, rfl, zFr_tt (zFr_tt g2 f2) e2, e3⟩
  · obtain ⟨τ2, f1, f2, f3⟩ := e10 _ σ h (by omega)
    rw [if_neg q, if_neg q, if_neg q, if_neg q, f1]
    exact ⟨τ2, rfl, f2, f3⟩
theorem zm264 {d : Nat} {t : zXt} {pt : Bool} {k n a : Int} {x : Int32} {σ : zM} (hk : 1 ≤ k ∧ k ≤ 5) (hn : zrn n) (ha : zrn a) (hd : zrn (a - n)) (h : mQ t pt k n a σ) (ht : t.1 < 14) : ∃ v τ, zev (d + 4) 264 [.inr (.inr (0, 60)), .inl x] σ = some (v, 0, τ) ∧ (pTl k n a pt = false → v = vTl k n a x) ∧ zFr WB σ τ ∧ mQ (tTl k n a pt t) (pTl k n a pt) k n a τ := by
  have k3 : (iI k = 3) = (k = 3) := ifn0 hk 3 (by decide)
  have e14 : ∀ (t : zXt) (σ : zM), mQ t pt k n a σ → t.1 < 15 → ∃ v τ, zrun (zev (d + 3)) zT_264 14 [some (.inr (.inr (0, 60))), some (.inl x), none] [] σ = some (v, 0, τ) ∧ (pTl k n a pt = false → v = vTl k n a x) ∧ zFr WB σ τ ∧ mQ (if k = 3 then tSh k n a pt (tBd k pt (aBg pt t 13)) else tBd k pt (aBg pt t 13)) (pTl k n a pt) k n a τ := by
    intro t σ h ht
    obtain ⟨τ, g1, g2, g3⟩ := zm259 (d := d + 2) (b := 13) h (by omega)
    have g1 : zev (d + 3) 259 [.inr (.inr (0, 60)), .inl 13] σ = _ := g1
    have l1 := aBg_l (pt := pt) (t := t) (b := 13)
    obtain ⟨τ2, f1, f2, f3⟩ := zm261 (d := d) (x := x) hk g3 (by omega)
    have l3 := tBd_l (k := k) (pt := pt) (t := aBg pt t 13)
    rw [ez_264_14]
    simp only [g1, f1, zbs, f3.2.2.1, k3, f3.2.2.2.1, f3.2.2.2.2]
    unfold pTl vTl
    by_cases q : k = 3
    · obtain ⟨v, τ3, e1, e0, e2, e3⟩ := zm263 (d := d) (x := iI n) hk hn ha hd f3 (by omega)
      rw [if_pos q, if_pos q, if_pos q, if_pos q, e1]
      exact ⟨_, τ3, rfl, fun z => by rw [e0 z], zFr_tt (zFr_tt g2 f2) e2, e3⟩
    · rw [if_neg q, if_neg q, if_neg q, if_neg q]
      exact ⟨_, τ2, rfl, fun _ => rfl, zFr_tt g2 f2, f3⟩
  rw [ez_264]
  simp only [h.2.2.1, k3]
  unfold tTl
  by_cases q : k = 3
  · obtain ⟨τ, g1, g2, g3⟩ := zm259 (d := d + 2) (b := 51) h (by omega)
    have g1 : zev (d + 3) 259 [.inr (.inr (0, 60)), .inl 51] σ = _ := g1
    have l1 := aBg_l (pt := pt) (t := t) (b := 51)
    obtain ⟨v, τ2, f1, f0, f2, f3⟩ := e14 _ τ g3 (by omega)
    rw [if_pos q] at f3
    rw [if_pos q, if_pos q, g1]
    exact ⟨v, τ2, f1, f0, zFr_tt g2 f2, f3⟩
  · obtain ⟨v, τ2, f1, f0, f2, f3⟩ := e14 _ σ h (by omega)
    rw [if_neg q] at f3
    rw [if_neg q, if_neg q]
    exact ⟨v, τ2, f1, f0, f2, f3⟩
