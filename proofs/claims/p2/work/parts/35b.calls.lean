theorem zx_103 {x : zXx} (w : WX x) (z : Int) (hz : zrn z) : zCall2 103 199 [.inl (iI z)] x := by
  have wb := w.1.1
  have b0 := wb.1
  have b1 := wb.2.1
  have wp := w.1.2.2.1
  have p0 := wp.1
  have p1 := wp.2.1
  have mk : (∃ v, ∀ σ, RC x σ → ∃ τ, zev 64 103 [.inr (.inr (0, 30)), .inl (iI z)] σ = some (v, 0, τ) ∧ zFr WC σ τ) → (∃ v, ∀ σ, RM x σ → ∃ τ, zev 64 199 [.inr (.inr (0, 60)), .inl (iI z)] σ = some (v, 0, τ) ∧ zFr WM σ τ ∧ mS 61 x.1 τ) → zCall2 103 199 [.inl (iI z)] x := by
    rintro ⟨v, h1⟩ ⟨v2, h2⟩
    refine ⟨x, v, v2, w, fun σ h => ?_, fun σ h => ?_⟩
    · obtain ⟨τ, a, b⟩ := h1 σ h
      exact ⟨0, τ, a, RC_s h b⟩
    · obtain ⟨τ, a, b, c⟩ := h2 σ h
      exact ⟨0, τ, a, RM_s h b c⟩
  by_cases q : 0 ≤ z ∧ z < x.1 2
  case neg =>
    refine mk ⟨-1, fun σ h => ?_⟩ ⟨-1, fun σ h => ?_⟩
    · rw [ez_103]
      simp only [zc37 h.1.2.2.2.1.1 ⟨p0, p1⟩ hz, zbs, zBi, decide_eq_false q, cond_false]
      exact ⟨σ, rfl, zFr_r σ⟩
    · rw [ez_199]
      simp only [zm151 (d := 61) h.1 ⟨p0, p1⟩ hz, zbs, zBi, decide_eq_false q, cond_false]
      exact ⟨σ, rfl, zFr_r σ, h.1⟩
  case pos =>
    obtain ⟨p, rfl⟩ := zint q.1
    have hp : p < (x.1 2).toNat := by omega
    have hr := aSeat_r wp hp
    have wp2 := wp.2.2 p hp
    have w2 := aSit_w (p := p) (z := -1) w.1 hp ⟨by omega, by omega⟩
    have e0 : aSit x.1 p (-1) 0 = x.1 0 := aSit_n (by omega)
    have hf := aSp_r5 w2
    have hbr : ∀ b, b < 9 → aBrk (aSit x.1 p (-1)) b = aBrk x.1 b := fun b hb => by unfold aBrk; rw [aSit_n (by omega)]
    let P : Nat → Bool := fun b => !decide ((b : Int) = cE (aSeat x.1 p)) && (!aBrk x.1 b && decide (zcr (aCr (aSit x.1 p (-1)) (aLd (aSit x.1 p (-1)) (aSp (aSit x.1 p (-1))) b (x.1 (52 + 3 * p)))) (((aSit x.1 p (-1)) 0).toNat) = 0))
    refine mk ⟨zcr P ((x.1 0).toNat), fun σ h => ?_⟩ ⟨zcr (fun b => !aBrk x.1 b && !aCk (aSit x.1 p b)) ((x.1 0).toNat), fun σ h => ?_⟩
    · obtain ⟨τ, c1, c2, c3, c4⟩ := zc107 (d := 57) h.1 w.1 hp
      have h16 : ∀ τ', zFr (WG 1) σ τ' → τ'.1 0 16 p = iI (x.1 (52 + 3 * p)) ∧ τ'.1 0 18 p = iI (cE (aSeat x.1 p)) := fun τ' f => by
        rw [zFr_f f (fun i q => absurd q.1 (by decide)), zFr_f f (fun i q => absurd q.1 (by decide))]
        exact ⟨(h.1.2.2.2.1.2 p hp).1, (h.1.2.2.2.1.2 p hp).2.2⟩
      rw [ez_103]
      simp only [zc37 h.1.2.2.2.1.1 ⟨p0, p1⟩ hz, zbs, zBi, decide_eq_true q, cond_true, c1, zgd_t (iI_ink (z := p) (k := p) rfl (show p < 8 by omega) (by decide)), iI_Nn (show p ≤ 2147483647 by omega), (h16 τ c2).1]
      have key : ∀ n k (τ2 : zM), k + n = (x.1 0).toNat → zFr (WG 1) σ τ2 → cA 1 (aSit x.1 p (-1)) τ2 → cS 1 (aSit x.1 p (-1)) (aSp (aSit x.1 p (-1))) τ2 → ∃ τ, zrun (zev 63) zT_103 39 [some (.inr (.inr (0, 30))), some (.inl (iI p)), some (.inl (iI (x.1 (52 + 3 * p)))), some (.inl (zcr P k)), some (.inl (iI k))] [] τ2 = some (zcr P ((x.1 0).toNat), 0, τ) ∧ zFr (WG 1) σ τ := by
        intro n
        induction n with
        | zero =>
          intro k τ2 hk f hA hs
          rw [ez_103_39, hA.1.1, e0, if_neg (by rw [iI_lt (by omega) (by omega)]; omega), show k = (x.1 0).toNat by omega]
          exact ⟨τ2, rfl, f⟩
        | succ n ih =>
          intro k τ2 hk f hA hs
          have e : zcr P (k + 1) = bif P k then zcr P k ||| (1 <<< (iI k &&& 31)) else zcr P k := rfl
          have eP : P k = (!decide ((k : Int) = cE (aSeat x.1 p)) && (!aBrk x.1 k && decide (zcr (aCr (aSit x.1 p (-1)) (aLd (aSit x.1 p (-1)) (aSp (aSit x.1 p (-1))) k (x.1 (52 + 3 * p)))) (((aSit x.1 p (-1)) 0).toNat) = 0))) := rfl
          have hcz : zrn (cE (aSeat x.1 p)) := by unfold cE; split <;> omega
          rw [ez_103_39, hA.1.1, e0, if_pos (by rw [iI_lt (by omega) (by omega)]; omega)]
          simp only [zgd_t (iI_ink (z := p) (k := p) rfl (show p < 8 by omega) (by decide)), iI_Nn (show p ≤ 2147483647 by omega), (h16 τ2 f).2, iI_eq (show zrn (k : Int) by omega) hcz, hki1]
          by_cases q1 : (k : Int) = cE (aSeat x.1 p)
          · rw [decide_eq_true q1, Bool.not_true, Bool.false_and] at eP
            rw [eP, cond_false] at e
            rw [if_pos q1, ← e]
            exact ih (k + 1) τ2 (by omega) f hA hs
          · rw [decide_eq_false q1, Bool.not_false, Bool.true_and] at eP
            rw [if_neg q1, zc14 (d := 61) hA.1 hA.2.1 w2.1 (by omega)]
            simp only [zbs, zBi, Int.toNat_natCast, e0, decide_eq_true (show (0 : Int) ≤ k ∧ (k : Int) < x.1 0 by omega), Bool.true_and, hbr k (by omega)]
            cases hh : aBrk x.1 k
            · rw [hh, Bool.not_false, Bool.true_and] at eP
              obtain ⟨τ3, g1, g2, g3⟩ := zc28n (d := 60) (b := k) (x := x.1 (52 + 3 * p)) hA.1 w2.1 hs (by rw [e0]; omega)
              have hA3 := cA_s hA (zFr_i g2 fun _ _ _ q => ⟨q.1, by omega⟩)
              have hfl : fR (aSit x.1 p (-1)) (aLd (aSit x.1 p (-1)) (aSp (aSit x.1 p (-1))) k (x.1 (52 + 3 * p))) := aLd_r hf (by omega)
              obtain ⟨τ4, k1, k2, k3⟩ := zc28n (d := 60) (b := k) (x := -x.1 (52 + 3 * p)) hA3.1 w2.1 g3 (by rw [e0]; omega)
              rw [aLd_n] at k3
              have hA4 := cA_s hA3 (zFr_i k2 fun _ _ _ q => ⟨q.1, by omega⟩)
              have f4 : zFr (WG 1) σ τ4 := zFr_tt f (zFr_tt (zFr_i g2 fun _ _ _ q => ⟨q.1, by omega⟩) (zFr_i k2 fun _ _ _ q => ⟨q.1, by omega⟩))
              simp only [Bool.not_false, cond_true, g1, zbs, zc29 (d := 60) hA3.1 hA3.2.1 w2.1 g3 hfl, iI_neg, k1]
              by_cases q2 : zcr (aCr (aSit x.1 p (-1)) (aLd (aSit x.1 p (-1)) (aSp (aSit x.1 p (-1))) k (x.1 (52 + 3 * p)))) (((aSit x.1 p (-1)) 0).toNat) = 0
              · rw [decide_eq_true q2] at eP
                rw [eP, cond_true] at e
                rw [if_pos q2, ← e]
                exact ih (k + 1) τ4 (by omega) f4 hA4 k3
              · rw [decide_eq_false q2] at eP
                rw [eP, cond_false] at e
                rw [if_neg q2, ← e]
                exact ih (k + 1) τ4 (by omega) f4 hA4 k3
            · rw [hh, Bool.not_true, Bool.false_and] at eP
              rw [eP, cond_false] at e
              simp only [Bool.not_true, cond_false]
              rw [← e]
              exact ih (k + 1) τ2 (by omega) f hA hs
      obtain ⟨τ5, g1, g2⟩ := key ((x.1 0).toNat) 0 τ (by omega) c2 c3 c4
      exact ⟨τ5, g1, zFr_i g2 fun _ _ _ q => by omega⟩
    · obtain ⟨τ, c1, c2, c3, c4⟩ := zm166c (d := 57) h.1 w.1
      have h79 := zm179 (d := 60) c3 (show p < 8 by omega)
      rw [ez_199]
      simp only [zm151 (d := 61) h.1 ⟨p0, p1⟩ hz, zbs, zBi, decide_eq_true q, cond_true, c1, h79]
      have key : ∀ n k (T : zS) (τ2 : zM), k + n = (x.1 0).toNat → zFr WM σ τ2 → (∃ y, T = aSit x.1 p y) → mS 61 T τ2 → mR 65 x.1 (aHold x.1) τ2 → ∃ τ, zrun (zev 63) zT_199 25 [some (.inr (.inr (0, 60))), some (.inl (iI p)), some (.inl (iI (aSeat x.1 p))), some (.inl (zcr (fun b => !aBrk x.1 b && !aCk (aSit x.1 p b)) k)), some (.inl (iI k))] [] τ2 = some (zcr (fun b => !aBrk x.1 b && !aCk (aSit x.1 p b)) ((x.1 0).toNat), 0, τ) ∧ zFr WM σ τ ∧ mS 61 x.1 τ := by
        intro n
        induction n with
        | zero =>
          intro k T τ2 hk f hT hS hh
          obtain ⟨y, rfl⟩ := hT
          have hS2 := mS_up (i := 54 + 3 * p) (v := aSeat x.1 p + 1) hS
          unfold aSit at hS2
          rw [zup_up, zup_same (by unfold aSeat; omega)] at hS2
          rw [ez_199_25, hS 0 (by decide), aSit_n (by omega), if_neg (by rw [iI_lt (by omega) (by omega)]; omega), zm180 (d := 61) (show p < 8 by omega), show k = (x.1 0).toNat by omega]
          exact ⟨_, rfl, zFr_tt f (zFr_w (by omega)), hS2⟩
        | succ n ih =>
          intro k T τ2 hk f hT hS hh
          obtain ⟨y, rfl⟩ := hT
          have w3 := wb.2.2 k (by omega)
          have e : zcr (fun b => !aBrk x.1 b && !aCk (aSit x.1 p b)) (k + 1) = bif (!aBrk x.1 k && !aCk (aSit x.1 p k)) then zcr (fun b => !aBrk x.1 b && !aCk (aSit x.1 p b)) k ||| (1 <<< (iI k &&& 31)) else zcr (fun b => !aBrk x.1 b && !aCk (aSit x.1 p b)) k := rfl
          have hbk : aBrk (aSit x.1 p y) k = aBrk x.1 k := by unfold aBrk; rw [aSit_n (by omega)]
          rw [ez_199_25, hS 0 (by decide), aSit_n (by omega), if_pos (by rw [iI_lt (by omega) (by omega)]; omega), zm157 (d := 60) hS (show k < 9 by omega) (by rw [aSit_n (by omega)]; omega), hbk]
          simp only [zbs, zBi, hki1]
          cases hq : aBrk x.1 k
          · rw [hq, Bool.not_false, Bool.true_and] at e
            have hS2 := mS_up (i := 54 + 3 * p) (v := (k : Int) + 1) hS
            unfold aSit at hS2
            rw [zup_up] at hS2
            have hS2 : mS 61 (aSit x.1 p k) (zwI τ2 0 61 (54 + 3 * p) (iI ((k : Int) + 1))) := hS2
            have w4 := aSit_w (p := p) (z := k) w.1 hp ⟨by omega, by omega⟩
            have hh2 : mR 65 (aSit x.1 p k) (aHold (aSit x.1 p k)) (zwI τ2 0 61 (54 + 3 * p) (iI ((k : Int) + 1))) := fun b hb => by
              rw [aSit_n (by omega)] at hb
              rw [zfe (by omega), hh b hb, aSit_hold (by omega) (by omega)]
            obtain ⟨τ3, g1, g2⟩ := zm171 (d := 55) hS2 w4 hh2
            have hS3 := mS_g hS2 g2 (fun i => by omega)
            have f3 : zFr WM σ τ3 := zFr_tt f (zFr_tt (zFr_w (by omega)) (zFr_i g2 fun _ _ _ q => by omega))
            have hh3 : mR 65 x.1 (aHold x.1) τ3 := fun b hb => by rw [zFr_f g2 (fun i => by omega), zfe (by omega)]; exact hh b hb
            have ih' := ih (k + 1) (aSit x.1 p k) τ3 (by omega) f3 ⟨k, rfl⟩ hS3 hh3
            simp only [cond_false, zm180 (d := 61) (z := (k : Int)) (σ := τ2) (show p < 8 by omega), g1, zbs, zBi, Int32.or_zero]
            cases hc : aCk (aSit x.1 p k)
            · rw [hc, Bool.not_false, cond_true] at e
              rw [e] at ih'
              exact ih'
            · rw [hc, Bool.not_true, cond_false] at e
              rw [e] at ih'
              exact ih'
          · rw [hq, Bool.not_true, Bool.false_and, cond_false] at e
            have ih' := ih (k + 1) _ τ2 (by omega) f ⟨y, rfl⟩ hS hh
            rw [e] at ih'
            exact ih'
      exact key ((x.1 0).toNat) 0 x.1 τ (by omega) c2 ⟨aSeat x.1 p, (zup_same (by unfold aSeat; omega)).symm⟩ c3 c4
