def aTot (T : zS) : Int := aStd (aFl 9 T).1 0 (((aFl 9 T).1 2).toNat) + aStd (aFl 9 T).1 1 (((aFl 9 T).1 2).toNat)
theorem aTot_b {T : zS} (w : wA T) : 0 ≤ aTot T ∧ aTot T ≤ 3200 := by
  have wf := wA_fl 9 w
  have p1 := wf.2.2.1.2.1
  have s0 := aStd_b (x := 0) wf.2.2.1 (((aFl 9 T).1 2).toNat) (Nat.le_refl _)
  have s1 := aStd_b (x := 1) wf.2.2.1 (((aFl 9 T).1 2).toNat) (Nat.le_refl _)
  unfold aTot
  omega
theorem zcTot {d : Nat} {T : zS} {σ : zM} (w : wA T) (hA : cA 1 T σ) : ∃ τ a b, zev (d + 6) 33 [.inr (.inr (1, 0))] σ = some (a, 0, τ) ∧ zev (d + 6) 38 [.inr (.inr (1, 15)), .inl 0] τ = some (b, 0, τ) ∧ (∃ c, zev (d + 6) 38 [.inr (.inr (1, 15)), .inl 1] τ = some (c, 0, τ) ∧ b + c = iI (aTot T)) ∧ zFr (WG 1) σ τ := by
  have wf := wA_fl 9 w
  obtain ⟨τ, b1, b2, b3⟩ := zc33 (d := d) w hA
  refine ⟨τ, _, iI (aStd (aFl 9 T).1 0 (((aFl 9 T).1 2).toNat)), b1, zc38 (d := d + 5) (x := 0) b3.2.2.2.1 wf.1 wf.2.2.1 (by decide), ⟨iI (aStd (aFl 9 T).1 1 (((aFl 9 T).1 2).toNat)), zc38 (d := d + 5) (x := 1) b3.2.2.2.1 wf.1 wf.2.2.1 (by decide), iI_add _ _⟩, zFr_i b2 fun _ _ _ q => by omega⟩
theorem zc108 {b : Nat} {S : zS} {σ : zM} (hA : cA 0 S σ) (wa : wA S) (hb : b < (S 0).toNat) : ∃ τ, zev 63 108 [.inr (.inr (0, 30)), .inl (iI b)] σ = some (iI (aTot (zup S (7 + 5 * b + 0) 4)), 0, τ) ∧ zFr (WG 1) σ τ := by
  have b1 := wa.1.2.1
  obtain ⟨τ, c1, c2, c3⟩ := zc25 (d := 57) (g := 1) (by decide) wa hA
  have h2 := cA_up (b := b) (w := 0) (v := 4) c3 wa hb (Or.inl rfl)
  have w2 := wA_up (b := b) (w := 0) (v := 4) wa hb (by omega)
  obtain ⟨τ1, v, y, a1, a2, ⟨c, a3, a4⟩, a5⟩ := zcTot (d := 56) w2 h2
  have a1 : zev 62 33 [.inr (.inr (1, 0))] (zwI τ 1 2 b 4) = some (v, 0, τ1) := a1
  rw [ez_108]
  simp only [c1, zbs, zgd_t (iI_ink (z := b) (k := b) rfl (show b < 9 by omega) (by decide)), iI_Nn (show b ≤ 2147483647 by omega), a1, a2, a3, a4]
  exact ⟨τ1, rfl, zFr_tt c2 (zFr_tt (zFr_w ⟨rfl, by omega⟩) a5)⟩
def aPp (S : zS) : Nat → Int × Int
  | 0 => (aTot S, -3)
  | n + 1 => if (aPp S n).1 < aTot (zup S (7 + 5 * n + 0) 4) then (aTot (zup S (7 + 5 * n + 0) 4), (n : Int)) else aPp S n
theorem aPp_b {S : zS} (w : wA S) : ∀ (n : Nat), n ≤ (S 0).toNat → 0 ≤ (aPp S n).1 ∧ (aPp S n).1 ≤ 3200
  | 0, _ => aTot_b w
  | n + 1, hn => by
    have h := aPp_b w n (by omega)
    have h2 := aTot_b (wA_up (b := n) (w := 0) (v := 4) w (by omega) (by omega))
    have e : aPp S (n + 1) = if (aPp S n).1 < aTot (zup S (7 + 5 * n + 0) 4) then (aTot (zup S (7 + 5 * n + 0) 4), (n : Int)) else aPp S n := rfl
    rw [e]
    split
    · exact h2
    · exact h
theorem zx_104 {x : zXx} (w : WX x) : zCall 104 200 [] x := by
  have wb := w.1.1
  have b0 := wb.1
  have b1 := wb.2.1
  refine zCq (iI (aPp x.1 ((x.1 0).toNat)).2) w (fun σ h => ?_) (fun σ h => ?_)
  · obtain ⟨τ, c1, c2, c3⟩ := zc25 (d := 58) (g := 1) (by decide) w.1 h.1
    obtain ⟨τ1, v, y, a1, a2, ⟨c, a3, a4⟩, a5⟩ := zcTot (d := 57) w.1 c3
    have f1 : zFr (WG 1) σ τ1 := zFr_tt c2 a5
    have hA1 : cA 0 x.1 τ1 := cA_c h.1 (fun k _ _ _ _ => zFr_f f1 (fun i q => absurd q.1 (by decide))) (f1.1 _ _ _ (fun q => absurd q.1 (by decide)))
    rw [ez_104]
    simp only [c1, a1, a2, a3, a4, zbs]
    have key : ∀ n k (τ2 : zM) (d4 : Option zV), k + n = (x.1 0).toNat → zFr (WG 1) σ τ2 → cA 0 x.1 τ2 → ∃ τ, zrun (zev 63) zT_104 48 [some (.inr (.inr (0, 30))), some (.inl (iI (aPp x.1 k).1)), some (.inl (iI (aPp x.1 k).2)), some (.inl (iI k)), d4] [] τ2 = some (iI (aPp x.1 ((x.1 0).toNat)).2, 0, τ) ∧ zFr (WG 1) σ τ := by
      intro n
      induction n with
      | zero =>
        intro k τ2 d4 hk f hA
        have ek : k = (x.1 0).toNat := by omega
        rw [ez_104_48, hA.1.1, if_neg (by rw [iI_lt (by omega) (by omega)]; omega), ek]
        exact ⟨τ2, rfl, f⟩
      | succ n ih =>
        intro k τ2 d4 hk f hA
        have hb := aPp_b w.1 k (by omega)
        have ht := aTot_b (wA_up (b := k) (w := 0) (v := 4) w.1 (by omega) (by omega))
        have e : aPp x.1 (k + 1) = if (aPp x.1 k).1 < aTot (zup x.1 (7 + 5 * k + 0) 4) then (aTot (zup x.1 (7 + 5 * k + 0) 4), (k : Int)) else aPp x.1 k := rfl
        obtain ⟨τ3, g1, g2⟩ := zc108 (b := k) hA w.1 (by omega)
        have f3 := zFr_tt f g2
        have hA3 : cA 0 x.1 τ3 := cA_c h.1 (fun k _ _ _ _ => zFr_f f3 (fun i q => absurd q.1 (by decide))) (f3.1 _ _ _ (fun q => absurd q.1 (by decide)))
        rw [ez_104_48, hA.1.1, if_pos (by rw [iI_lt (by omega) (by omega)]; omega), g1]
        simp only [zbs, hki1, iI_lt (show zrn (aPp x.1 k).1 by omega) (show zrn (aTot (zup x.1 (7 + 5 * k + 0) 4)) by omega)]
        have ih' := ih (k + 1) τ3 (some (.inl (iI (aTot (zup x.1 (7 + 5 * k + 0) 4))))) (by omega) f3 hA3
        by_cases q : (aPp x.1 k).1 < aTot (zup x.1 (7 + 5 * k + 0) 4)
        · rw [if_pos q] at e
          rw [e] at ih'
          rw [if_pos q]
          exact ih'
        · rw [if_neg q] at e
          rw [e] at ih'
          rw [if_neg q]
          exact ih'
    obtain ⟨τ4, g1, g2⟩ := key ((x.1 0).toNat) 0 τ1 none (by omega) f1 hA1
    exact ⟨τ4, g1, zFr_i g2 fun _ _ _ q => by omega⟩
  · obtain ⟨τ, c1, c2, c3, c4⟩ := zm193 (d := 54) h.1 w.1
    have tot : ∀ (τ : zM) (T : zS), (∀ x : Nat, x ≤ 1 → τ.1 0 67 x = iI (aStd (aFl 9 T).1 x (((aFl 9 T).1 2).toNat))) → τ.1 0 67 0 + τ.1 0 67 1 = iI (aTot T) := fun τ T hh => by
      rw [hh 0 (by decide), hh 1 (by decide), iI_add]
      rfl
    rw [ez_200]
    simp only [c1, zbs, tot τ x.1 c4]
    have key : ∀ n k (τ2 : zM) (d4 : Option zV), k + n = (x.1 0).toNat → zFr WM σ τ2 → mS 61 x.1 τ2 → ∃ τ, zrun (zev 63) zT_200 23 [some (.inr (.inr (0, 60))), some (.inl (iI (aPp x.1 k).1)), some (.inl (iI (aPp x.1 k).2)), some (.inl (iI k)), d4] [] τ2 = some (iI (aPp x.1 ((x.1 0).toNat)).2, 0, τ) ∧ zFr WM σ τ ∧ mS 61 x.1 τ := by
      intro n
      induction n with
      | zero =>
        intro k τ2 d4 hk f hS
        have ek : k = (x.1 0).toNat := by omega
        rw [ez_200_23, hS 0 (by decide), if_neg (by rw [iI_lt (by omega) (by omega)]; omega), ek]
        exact ⟨τ2, rfl, f, hS⟩
      | succ n ih =>
        intro k τ2 d4 hk f hS
        have hb := aPp_b w.1 k (by omega)
        have wk := wA_up (b := k) (w := 0) (v := 4) w.1 (by omega) (by omega)
        have ht := aTot_b wk
        have e : aPp x.1 (k + 1) = if (aPp x.1 k).1 < aTot (zup x.1 (7 + 5 * k + 0) 4) then (aTot (zup x.1 (7 + 5 * k + 0) 4), (k : Int)) else aPp x.1 k := rfl
        have e6 := zm156 (d := 61) (b := k) (w := 0) hS (by omega)
        have e6 : zev 63 156 [.inr (.inr (0, 60)), .inl (iI k), .inl 0] τ2 = _ := e6
        have e5 : ∀ σ : zM, zev 63 155 [.inl (iI k), .inl 0] σ = some (iI ((7 + 5 * k + 0 : Nat) : Int), 0, σ) := fun σ => zm155 (d := 62) (b := k) (w := 0)
        obtain ⟨τ3, g1, g2, g3, g4⟩ := zm193 (d := 54) (mS_up (i := 7 + 5 * k + 0) (v := 4) hS) wk
        have g1 : zev 63 193 [.inr (.inr (0, 60))] (zwI τ2 0 61 (7 + 5 * k + 0) 4) = some (0, 0, τ3) := g1
        have hS3 := mS_up (i := 7 + 5 * k + 0) (v := x.1 (7 + 5 * k + 0)) g3
        rw [zup_id] at hS3
        have hs : (zwI τ3 0 61 (7 + 5 * k + 0) (iI (x.1 (7 + 5 * k + 0)))).1 0 67 0 + (zwI τ3 0 61 (7 + 5 * k + 0) (iI (x.1 (7 + 5 * k + 0)))).1 0 67 1 = iI (aTot (zup x.1 (7 + 5 * k + 0) 4)) := by
          rw [zfe (by omega), zfe (by omega)]
          exact tot τ3 _ g4
        rw [ez_200_23, hS 0 (by decide), if_pos (by rw [iI_lt (by omega) (by omega)]; omega)]
        simp only [e6, e5, zbs, zgd_t (iI_ink (z := ((7 + 5 * k + 0 : Nat) : Int)) (k := 7 + 5 * k + 0) rfl (show 7 + 5 * k + 0 < 320 by omega) (by decide)), iI_Nn (show 7 + 5 * k + 0 ≤ 2147483647 by omega), g1, hs, iI_lt (show zrn (aPp x.1 k).1 by omega) (show zrn (aTot (zup x.1 (7 + 5 * k + 0) 4)) by omega)]
        generalize hτ4 : zwI τ3 0 61 (7 + 5 * k + 0) (iI (x.1 (7 + 5 * k + 0))) = τ4 at hS3 hs
        have f4 : zFr WM σ τ4 := by
          subst hτ4
          exact zFr_tt (zFr_tt (zFr_tt f (zFr_w (by omega))) (zFr_i g2 fun _ _ _ q => by omega)) (zFr_w (by omega))
        have ih' := ih (k + 1) τ4 none (by omega) f4 hS3
        by_cases q : (aPp x.1 k).1 < aTot (zup x.1 (7 + 5 * k + 0) 4)
        · rw [if_pos q] at e
          rw [e] at ih'
          rw [if_pos q, ez_200_90, hs, if_pos (by rw [iI_lt (by omega) (by omega)]; exact q), hki1]
          exact ih'
        · rw [if_neg q] at e
          rw [e] at ih'
          rw [if_neg q, ez_200_90, hs, if_neg (by rw [iI_lt (by omega) (by omega)]; exact q), hki1]
          exact ih'
    exact key ((x.1 0).toNat) 0 τ none (by omega) (zFr_i c2 fun _ _ _ q => by omega) c3
def zCall2 (J J2 : Nat) (as : List zV) (x : zXx) : Prop := ∃ x' v v2, WX x' ∧ zCl1 J as x x' v ∧ zMl1 J2 as x x' v2
theorem aLd_n {S : zS} {f : Nat → Int} {z w : Int} : aLd S (aLd S f z w) z (-w) = f := funext fun u => by
  unfold aLd
  cases aAbI S z u
  · rw [cond_false, cond_false]; omega
  · rw [cond_true, cond_true]; omega
theorem aLd_r {S : zS} {f : Nat → Int} {z w : Int} (hf : ∀ b, b < (S 0).toNat → -50000 ≤ f b ∧ f b ≤ 50000) (hw : -1000 ≤ w ∧ w ≤ 1000) : fR S (aLd S f z w) := fun b hb => by
  have h := hf b hb
  unfold aLd
  cases aAbI S z b
  · rw [cond_false]; omega
  · rw [cond_true]; omega
theorem aSp_r5 {S : zS} (w : wA S) : ∀ b, b < (S 0).toNat → -50000 ≤ aSp S b ∧ aSp S b ≤ 50000 := by
  intro b hb
  have h1 := aBear_b w.1 w.2.1 w.2.2.1 hb
  have h2 := aHold_b w.1 w.2.1 w.2.2.2.2.1 hb
  unfold aSp
  omega
theorem zc28n {d g b : Nat} {S : zS} {σ : zM} {f : Nat → Int} {x : Int} (hB : cB g S σ) (w : wB S) (hs : cS g S f σ) (hb : b < (S 0).toNat) : ∃ τ, zev (d + 3) 28 [.inr (.inr (g, 0)), .inl (iI b), .inl (iI x)] σ = some (0, 0, τ) ∧ zFr (Wk g 22) σ τ ∧ cS g S (aLd S f b x) τ := by
  have h := zc28 (d := d) (z := b) (x := x) hB w hs ⟨by omega, by omega⟩
  rwa [show cE (b : Int) = b from if_neg (by omega)] at h
theorem zx_103 {x : zXx} (w : WX x) (z : Int) (hz : zrn z) : zCall2 103 199 [.inl (iI z)] x := by
  have wb := w.1.1
  have b0 := wb.1
  have b1 := wb.2.1
  have wp := w.1.2.2.1
  have p0 := wp.1
  have p1 := wp.2.1
  have mk : (∃ v, ∀ σ, RC x σ → ∃ τ, zev 64 103 [.inr (.inr (0, 30)), .inl (iI z)] σ = some (v, 0, τ) ∧ zFr WC σ τ) → (∃ v, ∀ σ, RM x σ → ∃ τ, zev 64 199 [.inr (.inr (0, 60)), .inl (iI z)] σ = some (v, 0, τ) ∧ zFr WM σ τ ∧ mS 61 x.1 τ) → zCall2 103 199 [.inl (iI z)] x := by
    rintro ⟨v, h1⟩ ⟨v2, h2⟩
    refine ⟨x, v, v2, w, fun σ h => ?_, fun σ h => ?_⟩
    · obtain ⟨τ, a, b⟩ := h1 σ h
      exact ⟨0, τ, a, RC_s h b⟩
    · obtain ⟨τ, a, b, c⟩ := h2 σ h
      exact ⟨0, τ, a, RM_s h b c⟩
  by_cases q : 0 ≤ z ∧ z < x.1 2
  case neg =>
    refine mk ⟨-1, fun σ h => ?_⟩ ⟨-1, fun σ h => ?_⟩
    · rw [ez_103]
      simp only [zc37 h.1.2.2.2.1.1 ⟨p0, p1⟩ hz, zbs, zBi, decide_eq_false q, cond_false]
      exact ⟨σ, rfl, zFr_r σ⟩
    · rw [ez_199]
      simp only [zm151 (d := 61) h.1 ⟨p0, p1⟩ hz, zbs, zBi, decide_eq_false q, cond_false]
      exact ⟨σ, rfl, zFr_r σ, h.1⟩
  case pos =>
    obtain ⟨p, rfl⟩ := zint q.1
    have hp : p < (x.1 2).toNat := by omega
    have hr := aSeat_r wp hp
    have wp2 := wp.2.2 p hp
    have w2 := aSit_w (p := p) (z := -1) w.1 hp ⟨by omega, by omega⟩
    have e0 : aSit x.1 p (-1) 0 = x.1 0 := aSit_n (by omega)
    have hf := aSp_r5 w2
    have hbr : ∀ b, b < 9 → aBrk (aSit x.1 p (-1)) b = aBrk x.1 b := fun b hb => by unfold aBrk; rw [aSit_n (by omega)]
    let P : Nat → Bool := fun b => !decide ((b : Int) = cE (aSeat x.1 p)) && (!aBrk x.1 b && decide (zcr (aCr (aSit x.1 p (-1)) (aLd (aSit x.1 p (-1)) (aSp (aSit x.1 p (-1))) b (x.1 (52 + 3 * p)))) (((aSit x.1 p (-1)) 0).toNat) = 0))
    refine mk ⟨zcr P ((x.1 0).toNat), fun σ h => ?_⟩ ⟨zcr (fun b => !aBrk x.1 b && !aCk (aSit x.1 p b)) ((x.1 0).toNat), fun σ h => ?_⟩
    · obtain ⟨τ, c1, c2, c3, c4⟩ := zc107 (d := 57) h.1 w.1 hp
      have h16 : ∀ τ', zFr (WG 1) σ τ' → τ'.1 0 16 p = iI (x.1 (52 + 3 * p)) ∧ τ'.1 0 18 p = iI (cE (aSeat x.1 p)) := fun τ' f => by
        rw [zFr_f f (fun i q => absurd q.1 (by decide)), zFr_f f (fun i q => absurd q.1 (by decide))]
        exact ⟨(h.1.2.2.2.1.2 p hp).1, (h.1.2.2.2.1.2 p hp).2.2⟩
      rw [ez_103]
      simp only [zc37 h.1.2.2.2.1.1 ⟨p0, p1⟩ hz, zbs, zBi, decide_eq_true q, cond_true, c1, zgd_t (iI_ink (z := p) (k := p) rfl (show p < 8 by omega) (by decide)), iI_Nn (show p ≤ 2147483647 by omega), (h16 τ c2).1]
      have key : ∀ n k (τ2 : zM), k + n = (x.1 0).toNat → zFr (WG 1) σ τ2 → cA 1 (aSit x.1 p (-1)) τ2 → cS 1 (aSit x.1 p (-1)) (aSp (aSit x.1 p (-1))) τ2 → ∃ τ, zrun (zev 63) zT_103 39 [some (.inr (.inr (0, 30))), some (.inl (iI p)), some (.inl (iI (x.1 (52 + 3 * p)))), some (.inl (zcr P k)), some (.inl (iI k))] [] τ2 = some (zcr P ((x.1 0).toNat), 0, τ) ∧ zFr (WG 1) σ τ := by
        intro n
        induction n with
        | zero =>
          intro k τ2 hk f hA hs
          rw [ez_103_39, hA.1.1, e0, if_neg (by rw [iI_lt (by omega) (by omega)]; omega), show k = (x.1 0).toNat by omega]
          exact ⟨τ2, rfl, f⟩
        | succ n ih =>
          intro k τ2 hk f hA hs
          have e : zcr P (k + 1) = bif P k then zcr P k ||| (1 <<< (iI k &&& 31)) else zcr P k := rfl
          have eP : P k = (!decide ((k : Int) = cE (aSeat x.1 p)) && (!aBrk x.1 k && decide (zcr (aCr (aSit x.1 p (-1)) (aLd (aSit x.1 p (-1)) (aSp (aSit x.1 p (-1))) k (x.1 (52 + 3 * p)))) (((aSit x.1 p (-1)) 0).toNat) = 0))) := rfl
          have hcz : zrn (cE (aSeat x.1 p)) := by unfold cE; split <;> omega
          rw [ez_103_39, hA.1.1, e0, if_pos (by rw [iI_lt (by omega) (by omega)]; omega)]
          simp only [zgd_t (iI_ink (z := p) (k := p) rfl (show p < 8 by omega) (by decide)), iI_Nn (show p ≤ 2147483647 by omega), (h16 τ2 f).2, iI_eq (show zrn (k : Int) by omega) hcz, hki1]
          by_cases q1 : (k : Int) = cE (aSeat x.1 p)
          · rw [decide_eq_true q1, Bool.not_true, Bool.false_and] at eP
            rw [eP, cond_false] at e
            rw [if_pos q1, ← e]
            exact ih (k + 1) τ2 (by omega) f hA hs
          · rw [decide_eq_false q1, Bool.not_false, Bool.true_and] at eP
            rw [if_neg q1, zc14 (d := 61) hA.1 hA.2.1 w2.1 (by omega)]
            simp only [zbs, zBi, Int.toNat_natCast, e0, decide_eq_true (show (0 : Int) ≤ k ∧ (k : Int) < x.1 0 by omega), Bool.true_and, hbr k (by omega)]
            cases hh : aBrk x.1 k
            · rw [hh, Bool.not_false, Bool.true_and] at eP
              obtain ⟨τ3, g1, g2, g3⟩ := zc28n (d := 60) (b := k) (x := x.1 (52 + 3 * p)) hA.1 w2.1 hs (by rw [e0]; omega)
              have hA3 := cA_s hA (zFr_i g2 fun _ _ _ q => ⟨q.1, by omega⟩)
              have hfl : fR (aSit x.1 p (-1)) (aLd (aSit x.1 p (-1)) (aSp (aSit x.1 p (-1))) k (x.1 (52 + 3 * p))) := aLd_r hf (by omega)
              obtain ⟨τ4, k1, k2, k3⟩ := zc28n (d := 60) (b := k) (x := -x.1 (52 + 3 * p)) hA3.1 w2.1 g3 (by rw [e0]; omega)
              rw [aLd_n] at k3
              have hA4 := cA_s hA3 (zFr_i k2 fun _ _ _ q => ⟨q.1, by omega⟩)
              have f4 : zFr (WG 1) σ τ4 := zFr_tt f (zFr_tt (zFr_i g2 fun _ _ _ q => ⟨q.1, by omega⟩) (zFr_i k2 fun _ _ _ q => ⟨q.1, by omega⟩))
              simp only [Bool.not_false, cond_true, g1, zbs, zc29 (d := 60) hA3.1 hA3.2.1 w2.1 g3 hfl, iI_neg, k1]
              by_cases q2 : zcr (aCr (aSit x.1 p (-1)) (aLd (aSit x.1 p (-1)) (aSp (aSit x.1 p (-1))) k (x.1 (52 + 3 * p)))) (((aSit x.1 p (-1)) 0).toNat) = 0
              · rw [decide_eq_true q2] at eP
                rw [eP, cond_true] at e
                rw [if_pos q2, ← e]
                exact ih (k + 1) τ4 (by omega) f4 hA4 k3
              · rw [decide_eq_false q2] at eP
                rw [eP, cond_false] at e
                rw [if_neg q2, ← e]
                exact ih (k + 1) τ4 (by omega) f4 hA4 k3
            · rw [hh, Bool.not_true, Bool.false_and] at eP
              rw [eP, cond_false] at e
              simp only [Bool.not_true, cond_false]
              rw [← e]
              exact ih (k + 1) τ2 (by omega) f hA hs
      obtain ⟨τ5, g1, g2⟩ := key ((x.1 0).toNat) 0 τ (by omega) c2 c3 c4
      exact ⟨τ5, g1, zFr_i g2 fun _ _ _ q => by omega⟩
    · obtain ⟨τ, c1, c2, c3, c4⟩ := zm166c (d := 57) h.1 w.1
      have h79 := zm179 (d := 60) c3 (show p < 8 by omega)
      rw [ez_199]
      simp only [zm151 (d := 61) h.1 ⟨p0, p1⟩ hz, zbs, zBi, decide_eq_true q, cond_true, c1, h79]
      have key : ∀ n k (T : zS) (τ2 : zM), k + n = (x.1 0).toNat → zFr WM σ τ2 → (∃ y, T = aSit x.1 p y) → mS 61 T τ2 → mR 65 x.1 (aHold x.1) τ2 → ∃ τ, zrun (zev 63) zT_199 25 [some (.inr (.inr (0, 60))), some (.inl (iI p)), some (.inl (iI (aSeat x.1 p))), some (.inl (zcr (fun b => !aBrk x.1 b && !aCk (aSit x.1 p b)) k)), some (.inl (iI k))] [] τ2 = some (zcr (fun b => !aBrk x.1 b && !aCk (aSit x.1 p b)) ((x.1 0).toNat), 0, τ) ∧ zFr WM σ τ ∧ mS 61 x.1 τ := by
        intro n
        induction n with
        | zero =>
          intro k T τ2 hk f hT hS hh
          obtain ⟨y, rfl⟩ := hT
          have hS2 := mS_up (i := 54 + 3 * p) (v := aSeat x.1 p + 1) hS
          unfold aSit at hS2
          rw [zup_up, zup_same (by unfold aSeat; omega)] at hS2
          rw [ez_199_25, hS 0 (by decide), aSit_n (by omega), if_neg (by rw [iI_lt (by omega) (by omega)]; omega), zm180 (d := 61) (show p < 8 by omega), show k = (x.1 0).toNat by omega]
          exact ⟨_, rfl, zFr_tt f (zFr_w (by omega)), hS2⟩
        | succ n ih =>
          intro k T τ2 hk f hT hS hh
          obtain ⟨y, rfl⟩ := hT
          have w3 := wb.2.2 k (by omega)
          have e : zcr (fun b => !aBrk x.1 b && !aCk (aSit x.1 p b)) (k + 1) = bif (!aBrk x.1 k && !aCk (aSit x.1 p k)) then zcr (fun b => !aBrk x.1 b && !aCk (aSit x.1 p b)) k ||| (1 <<< (iI k &&& 31)) else zcr (fun b => !aBrk x.1 b && !aCk (aSit x.1 p b)) k := rfl
          have hbk : aBrk (aSit x.1 p y) k = aBrk x.1 k := by unfold aBrk; rw [aSit_n (by omega)]
          rw [ez_199_25, hS 0 (by decide), aSit_n (by omega), if_pos (by rw [iI_lt (by omega) (by omega)]; omega), zm157 (d := 60) hS (show k < 9 by omega) (by rw [aSit_n (by omega)]; omega), hbk]
          simp only [zbs, zBi, hki1]
          cases hq : aBrk x.1 k
          · rw [hq, Bool.not_false, Bool.true_and] at e
            have hS2 := mS_up (i := 54 + 3 * p) (v := (k : Int) + 1) hS
            unfold aSit at hS2
            rw [zup_up] at hS2
            have hS2 : mS 61 (aSit x.1 p k) (zwI τ2 0 61 (54 + 3 * p) (iI ((k : Int) + 1))) := hS2
            have w4 := aSit_w (p := p) (z := k) w.1 hp ⟨by omega, by omega⟩
            have hh2 : mR 65 (aSit x.1 p k) (aHold (aSit x.1 p k)) (zwI τ2 0 61 (54 + 3 * p) (iI ((k : Int) + 1))) := fun b hb => by
              rw [aSit_n (by omega)] at hb
              rw [zfe (by omega), hh b hb, aSit_hold (by omega) (by omega)]
            obtain ⟨τ3, g1, g2⟩ := zm171 (d := 55) hS2 w4 hh2
            have hS3 := mS_g hS2 g2 (fun i => by omega)
            have f3 : zFr WM σ τ3 := zFr_tt f (zFr_tt (zFr_w (by omega)) (zFr_i g2 fun _ _ _ q => by omega))
            have hh3 : mR 65 x.1 (aHold x.1) τ3 := fun b hb => by rw [zFr_f g2 (fun i => by omega), zfe (by omega)]; exact hh b hb
            have ih' := ih (k + 1) (aSit x.1 p k) τ3 (by omega) f3 ⟨k, rfl⟩ hS3 hh3
            simp only [cond_false, zm180 (d := 61) (z := (k : Int)) (σ := τ2) (show p < 8 by omega), g1, zbs, zBi, Int32.or_zero]
            cases hc : aCk (aSit x.1 p k)
            · rw [hc, Bool.not_false, cond_true] at e
              rw [e] at ih'
              exact ih'
            · rw [hc, Bool.not_true, cond_false] at e
              rw [e] at ih'
              exact ih'
          · rw [hq, Bool.not_true, Bool.false_and, cond_false] at e
            have ih' := ih (k + 1) _ τ2 (by omega) f ⟨y, rfl⟩ hS hh
            rw [e] at ih'
            exact ih'
      exact key ((x.1 0).toNat) 0 x.1 τ (by omega) c2 ⟨aSeat x.1 p, (zup_same (by unfold aSeat; omega)).symm⟩ c3 c4
theorem zx_88 {x : zXx} (w : WX x) (a v : Int) (ha : zrn a) (hv : zrn v) : zCall 88 176 [.inl (iI a), .inl (iI v)] x := by
  have r1 : ∀ {σ : zM}, zev 63 141 [.inl (iI a), .inl 0, .inl 1] σ = some (zB (decide (0 ≤ a ∧ a ≤ 1)), 0, σ) := zc141 (l := 0) (h := 1) ha (by decide) (by decide)
  have r2 : ∀ {σ : zM}, zev 63 141 [.inl (iI v), .inl 0, .inl 9] σ = some (zB (decide (0 ≤ v ∧ v ≤ 9)), 0, σ) := zc141 (l := 0) (h := 9) hv (by decide) (by decide)
  have m1 : ∀ {σ : zM}, zev 63 149 [.inr (.inl (Int32.toInt64 (iI a))), .inr (.inl 0), .inr (.inl 1)] σ = some (zB (decide (0 ≤ a ∧ a ≤ 1)), 0, σ) := zm149k (l := 0) (h := 1) ha (by decide) (by decide)
  have m2 : ∀ {σ : zM}, zev 63 149 [.inr (.inl (Int32.toInt64 (iI v))), .inr (.inl 0), .inr (.inl 9)] σ = some (zB (decide (0 ≤ v ∧ v ≤ 9)), 0, σ) := zm149k (l := 0) (h := 9) hv (by decide) (by decide)
  by_cases q1 : 0 ≤ a ∧ a ≤ 1
  · by_cases q2 : 0 ≤ v ∧ v ≤ 9
    · obtain ⟨n, rfl⟩ := zint q1.1
      have hn : n = 0 ∨ n = 1 := by omega
      refine zCs (zup x.1 (4 + n) v) (iI (x.1 (4 + n))) w (wA_wt w.1 (by omega) q2) (wK_c w.2.2.2.2.2.2.1 w.1.1 (zup_n (by omega)) (fun i _ _ _ => zup_n (by omega))) (fun σ h => ?_) (fun σ h => ?_)
      · have h2 := cA_wt (i := 4 + n) (v := v) h.1 w.1 (by omega)
        rw [ez_88]
        simp only [r1, r2, zbs, zBi, decide_eq_true q1, decide_eq_true q2, cond_true]
        rcases hn with rfl | rfl
        · rw [if_pos (show iI ((0 : Nat) : Int) = 0 from rfl), ez_88_48, if_pos (show iI ((0 : Nat) : Int) = 0 from rfl), h.1.2.2.1.1]
          exact ⟨_, rfl, zFr_w (by omega), h2⟩
        · rw [if_neg (by decide), ez_88_48, if_neg (by decide), h.1.2.2.1.2]
          exact ⟨_, rfl, zFr_w (by omega), h2⟩
      · have i0 : (4 : Int32) + iI n = iI ((4 + n : Nat) : Int) := by
          show iI 4 + iI n = _
          rw [iI_add]; congr 1
        rw [ez_176]
        simp only [m1, m2, zbs, zBi, decide_eq_true q1, decide_eq_true q2, cond_true, i0, zgd_t (iI_ink (z := ((4 + n : Nat) : Int)) (k := 4 + n) rfl (show 4 + n < 320 by omega) (by decide)), iI_Nn (show 4 + n ≤ 2147483647 by omega), h.1 (4 + n) (by omega)]
        exact ⟨_, rfl, zFr_w (by omega), mS_up h.1⟩
    · refine zCq (-1) w (fun σ h => ?_) (fun σ h => ?_)
      · rw [ez_88]
        simp only [r1, r2, zbs, zBi, decide_eq_true q1, decide_eq_false q2, cond_true, cond_false]
        exact ⟨σ, rfl, zFr_r σ⟩
      · rw [ez_176]
        simp only [m1, m2, zbs, zBi, decide_eq_true q1, decide_eq_false q2, cond_true, cond_false]
        exact ⟨σ, rfl, zFr_r σ, h.1⟩
  · refine zCq (-1) w (fun σ h => ?_) (fun σ h => ?_)
    · rw [ez_88]
      simp only [r1, zbs, zBi, decide_eq_false q1, cond_false]
      exact ⟨σ, rfl, zFr_r σ⟩
    · rw [ez_176]
      simp only [m1, zbs, zBi, decide_eq_false q1, cond_false]
      exact ⟨σ, rfl, zFr_r σ, h.1⟩
theorem zm159 {d : Nat} {a v : Int} {σ : zM} (ha : zrn a) (hv : zrn v) : zev (d + 2) 159 [.inl (iI a), .inl (iI v)] σ = some (zB (decide ((a = 2 ∧ 1 ≤ v ∧ v ≤ 9) ∨ (a = 3 ∧ 1 ≤ v ∧ v ≤ 999))), 0, σ) := by
  rw [F159]
  have e2 : (iI a = 2) = (a = 2) := iI_eq (b := 2) ha (by decide)
  have e3 : (iI a = 3) = (a = 3) := iI_eq (b := 3) ha (by decide)
  have hc : (iI a = 2 ∧ zrg 1 (iI v) 9 ∨ iI a = 3 ∧ zrg 1 (iI v) 999) = ((a = 2 ∧ 1 ≤ v ∧ v ≤ 9) ∨ (a = 3 ∧ 1 ≤ v ∧ v ≤ 999)) := by
    rw [e2, e3]
    show (a = 2 ∧ (1 ≤ (iI v).toInt ∧ (iI v).toInt ≤ 9) ∨ a = 3 ∧ (1 ≤ (iI v).toInt ∧ (iI v).toInt ≤ 999)) = _
    rw [t_iI hv]
  simp only [hc]
  by_cases q : (a = 2 ∧ 1 ≤ v ∧ v ≤ 9) ∨ (a = 3 ∧ 1 ≤ v ∧ v ≤ 999)
  · rw [if_pos q, decide_eq_true q]; rfl
  · rw [if_neg q, decide_eq_false q]; rfl
theorem zc147_2 {d g b : Nat} {v : Int32} {σ : zM} (hb : b < 9) : zev (d + 1) 147 [.inr (.inr (g, 2)), .inl (iI b), .inl v] σ = some (σ.1 g 2 b, 0, zwI σ g 2 b v) := by
  rw [ez_147k2]
  simp only [zgd_t (iI_ink (z := b) (k := b) rfl hb (by decide)), iI_Nn (show b ≤ 2147483647 by omega)]
theorem zc147_4 {d g b : Nat} {v : Int32} {σ : zM} (hb : b < 9) : zev (d + 1) 147 [.inr (.inr (g, 4)), .inl (iI b), .inl v] σ = some (σ.1 g 4 b, 0, zwI σ g 4 b v) := by
  rw [ez_147k4]
  simp only [zgd_t (iI_ink (z := b) (k := b) rfl hb (by decide)), iI_Nn (show b ≤ 2147483647 by omega)]
theorem zc147_5 {d g b : Nat} {v : Int32} {σ : zM} (hb : b < 9) : zev (d + 1) 147 [.inr (.inr (g, 5)), .inl (iI b), .inl v] σ = some (σ.1 g 5 b, 0, zwI σ g 5 b v) := by
  rw [ez_147k5]
  simp only [zgd_t (iI_ink (z := b) (k := b) rfl hb (by decide)), iI_Nn (show b ≤ 2147483647 by omega)]
theorem zc147_18 {d g b : Nat} {v : Int32} {σ : zM} (hb : b < 8) : zev (d + 1) 147 [.inr (.inr (g, 18)), .inl (iI b), .inl v] σ = some (σ.1 g 18 b, 0, zwI σ g 18 b v) := by
  rw [ez_147k18]
  simp only [zgd_t (iI_ink (z := b) (k := b) rfl hb (by decide)), iI_Nn (show b ≤ 2147483647 by omega)]
theorem zx_86 {x : zXx} (w : WX x) (b a v : Int) (hb : zrn b) (ha : zrn a) (hv : zrn v) : zCall 86 174 [.inl (iI b), .inl (iI a), .inl (iI v)] x := by
  have b0 := w.1.1.1
  have b1 := w.1.1.2.1
  have r2 : ∀ {σ : zM}, zev 63 141 [.inl (iI v), .inl 1, .inl 9] σ = some (zB (decide (1 ≤ v ∧ v ≤ 9)), 0, σ) := zc141 (l := 1) (h := 9) hv (by decide) (by decide)
  have r3 : ∀ {σ : zM}, zev 63 141 [.inl (iI v), .inl 1, .inl 999] σ = some (zB (decide (1 ≤ v ∧ v ≤ 999)), 0, σ) := zc141 (l := 1) (h := 999) hv (by decide) (by decide)
  have e2 : (iI a = 2) = (a = 2) := iI_eq (b := 2) ha (by decide)
  have e3 : (iI a = 3) = (a = 3) := iI_eq (b := 3) ha (by decide)
  by_cases q1 : 0 ≤ b ∧ b < x.1 0
  case neg =>
    refine zCq (-1) w (fun σ h => ?_) (fun σ h => ?_)
    · rw [ez_86]
      simp only [zc13 h.1.1.1 ⟨b0, b1⟩ hb, zbs, zBi, decide_eq_false q1, cond_false]
      exact ⟨σ, rfl, zFr_r σ⟩
    · rw [ez_174]
      simp only [zm150 (d := 61) h.1 ⟨b0, b1⟩ hb, zbs, zBi, decide_eq_false q1, cond_false]
      exact ⟨σ, rfl, zFr_r σ, h.1⟩
  case pos =>
    obtain ⟨n, rfl⟩ := zint q1.1
    have hn : n < (x.1 0).toNat := by omega
    by_cases q2 : (a = 2 ∧ 1 ≤ v ∧ v ≤ 9) ∨ (a = 3 ∧ 1 ≤ v ∧ v ≤ 999)
    · obtain ⟨m, rfl⟩ := zint (show 0 ≤ a by omega)
      have hm : (m = 2 ∧ 1 ≤ v ∧ v ≤ 9) ∨ (m = 3 ∧ 1 ≤ v ∧ v ≤ 999) := by omega
      refine zCs (zup x.1 (7 + 5 * n + m) v) (iI (x.1 (7 + 5 * n + m))) w (wA_up w.1 hn (by omega)) (wK_c w.2.2.2.2.2.2.1 w.1.1 (zup_n (by omega)) (fun i _ _ _ => zup_n (by omega))) (fun σ h => ?_) (fun σ h => ?_)
      · have h2 := cA_up (b := n) (w := m) (v := v) h.1 w.1 hn (by omega)
        rw [ez_86]
        simp only [zc13 h.1.1.1 ⟨b0, b1⟩ hb, zbs, zBi, decide_eq_true q1, cond_true, e2]
        rcases hm with ⟨rfl, hm⟩ | ⟨rfl, hm⟩
        · rw [if_pos (by decide), r2, decide_eq_true hm]
          simp only [zbs, zBi, cond_true, zc147_4 (d := 62) (show n < 9 by omega)]
          refine ⟨_, ?_, zFr_w (by omega), h2⟩
          rw [(h.1.1.2 n hn).2.2.1, show 9 + 5 * n = 7 + 5 * n + 2 by omega]
        · rw [if_neg (by decide), ez_86_47, if_pos (by rw [e3]; decide), r3, decide_eq_true hm]
          simp only [zbs, zBi, cond_true, zc147_5 (d := 62) (show n < 9 by omega)]
          refine ⟨_, ?_, zFr_w (by omega), h2⟩
          rw [(h.1.1.2 n hn).2.2.2.1, show 10 + 5 * n = 7 + 5 * n + 3 by omega]
      · rw [ez_174]
        simp only [zm150 (d := 61) h.1 ⟨b0, b1⟩ hb, zbs, zBi, decide_eq_true q1, cond_true, zm159 (d := 61) ha hv, decide_eq_true q2, zm156 (d := 61) (b := n) (w := m) h.1 (show 7 + 5 * n + m < 320 by omega), zm155, zgd_t (iI_ink (z := ((7 + 5 * n + m : Nat) : Int)) (k := 7 + 5 * n + m) rfl (show 7 + 5 * n + m < 320 by omega) (by decide)), iI_Nn (show 7 + 5 * n + m ≤ 2147483647 by omega)]
        exact ⟨_, rfl, zFr_w (by omega), mS_up h.1⟩
    · refine zCq (-1) w (fun σ h => ?_) (fun σ h => ?_)
      · rw [ez_86]
        simp only [zc13 h.1.1.1 ⟨b0, b1⟩ hb, zbs, zBi, decide_eq_true q1, cond_true, e2, r2]
        have t : zrun (zev 63) zT_86 47 [some (.inr (.inr (0, 30))), some (.inl (iI n)), some (.inl (iI a)), some (.inl (iI v))] [] σ = some (-1, 0, σ) := by
          rw [ez_86_47]
          simp only [e3, r3, zbs, zBi]
          by_cases q3 : a = 3
          · rw [if_pos q3, decide_eq_false (fun z => q2 (Or.inr ⟨q3, z⟩))]; rfl
          · rw [if_neg q3]
        by_cases q3 : a = 2
        · rw [if_pos q3, decide_eq_false (fun z => q2 (Or.inl ⟨q3, z⟩)), cond_false, t]
          exact ⟨σ, rfl, zFr_r σ⟩
        · rw [if_neg q3, t]
          exact ⟨σ, rfl, zFr_r σ⟩
      · rw [ez_174]
        simp only [zm150 (d := 61) h.1 ⟨b0, b1⟩ hb, zbs, zBi, decide_eq_true q1, cond_true, zm159 (d := 61) ha hv, decide_eq_false q2, cond_false]
        exact ⟨σ, rfl, zFr_r σ, h.1⟩
theorem zx_87 {x : zXx} (w : WX x) (b k : Int) (hb : zrn b) (hk : zrn k) : zCall 87 175 [.inl (iI b), .inl (iI k)] x := by
  have b0 := w.1.1.1
  have b1 := w.1.1.2.1
  have r1 : ∀ {σ : zM}, zev 62 141 [.inl (iI k), .inl 1, .inl 5] σ = some (zB (decide (1 ≤ k ∧ k ≤ 5)), 0, σ) := zc141 (l := 1) (h := 5) hk (by decide) (by decide)
  have r2 : ∀ {σ : zM}, zev 63 142 [.inl (iI k)] σ = some (zB (decide (1 ≤ k ∧ k ≤ 5)), 0, σ) := fun {σ} => by
    rw [ez_142]
    simp only [r1, zbs]
    exact zB_g
  have m1 : ∀ {σ : zM}, zev 63 149 [.inr (.inl (Int32.toInt64 (iI k))), .inr (.inl 1), .inr (.inl 5)] σ = some (zB (decide (1 ≤ k ∧ k ≤ 5)), 0, σ) := zm149k (l := 1) (h := 5) hk (by decide) (by decide)
  by_cases q1 : 0 ≤ b ∧ b < x.1 0
  case neg =>
    refine zCq (-1) w (fun σ h => ?_) (fun σ h => ?_)
    · rw [ez_87]
      simp only [zc13 h.1.1.1 ⟨b0, b1⟩ hb, zbs, zBi, decide_eq_false q1, cond_false]
      exact ⟨σ, rfl, zFr_r σ⟩
    · rw [ez_175]
      simp only [zm150 (d := 61) h.1 ⟨b0, b1⟩ hb, zbs, zBi, decide_eq_false q1, cond_false]
      exact ⟨σ, rfl, zFr_r σ, h.1⟩
  case pos =>
    obtain ⟨n, rfl⟩ := zint q1.1
    have hn : n < (x.1 0).toNat := by omega
    by_cases q2 : 1 ≤ k ∧ k ≤ 5
    · refine zCs (zup x.1 (7 + 5 * n + 0) k) (iI (x.1 (7 + 5 * n + 0))) w (wA_up w.1 hn (by omega)) (wK_c w.2.2.2.2.2.2.1 w.1.1 (zup_n (by omega)) (fun i _ _ _ => zup_n (by omega))) (fun σ h => ?_) (fun σ h => ?_)
      · have h2 := cA_up (b := n) (w := 0) (v := k) h.1 w.1 hn (by omega)
        rw [ez_87]
        simp only [zc13 h.1.1.1 ⟨b0, b1⟩ hb, zbs, zBi, decide_eq_true q1, cond_true, r2, decide_eq_true q2, zc147_2 (d := 62) (show n < 9 by omega)]
        refine ⟨_, ?_, zFr_w (by omega), h2⟩
        rw [(h.1.1.2 n hn).1]
        rfl
      · have e6 := zm156 (d := 61) (b := n) (w := 0) h.1 (show 7 + 5 * n + 0 < 320 by omega)
        have e6 : zev 63 156 [.inr (.inr (0, 60)), .inl (iI n), .inl 0] σ = _ := e6
        have e5 : zev 63 155 [.inl (iI n), .inl 0] σ = some (iI ((7 + 5 * n + 0 : Nat) : Int), 0, σ) := zm155 (d := 62) (b := n) (w := 0)
        rw [ez_175]
        simp only [zm150 (d := 61) h.1 ⟨b0, b1⟩ hb, zbs, zBi, decide_eq_true q1, cond_true, m1, decide_eq_true q2, e6, e5, zgd_t (iI_ink (z := ((7 + 5 * n + 0 : Nat) : Int)) (k := 7 + 5 * n + 0) rfl (show 7 + 5 * n + 0 < 320 by omega) (by decide)), iI_Nn (show 7 + 5 * n + 0 ≤ 2147483647 by omega)]
        exact ⟨_, rfl, zFr_w (by omega), mS_up h.1⟩
    · refine zCq (-1) w (fun σ h => ?_) (fun σ h => ?_)
      · rw [ez_87]
        simp only [zc13 h.1.1.1 ⟨b0, b1⟩ hb, zbs, zBi, decide_eq_true q1, cond_true, r2, decide_eq_false q2, cond_false]
        exact ⟨σ, rfl, zFr_r σ⟩
      · rw [ez_175]
        simp only [zm150 (d := 61) h.1 ⟨b0, b1⟩ hb, zbs, zBi, decide_eq_true q1, cond_true, m1, decide_eq_false q2, cond_false]
        exact ⟨σ, rfl, zFr_r σ, h.1⟩
theorem zm182 {d : Nat} {p : Nat} {S : zS} {σ : zM} (h : mS 61 S σ) (hi : p < 8) (hr : -1 ≤ aSeat S p ∧ aSeat S p ≤ 9) : zev (d + 4) 182 [.inr (.inr (0, 60)), .inl (iI p)] σ = some (iI (cE (aSeat S p)), 0, σ) := by
  rw [ez_182]
  simp only [zm179 (d := d) h hi, zbs, iI_lt0 (show zrn (aSeat S p) by omega)]
  unfold cE
  by_cases q : aSeat S p < 0
  · rw [if_pos q, if_pos q]; rfl
  · rw [if_neg q, if_neg q]
theorem zx_94 {x : zXx} (w : WX x) (z : Int) (hz : zrn z) : zCall 94 185 [.inl (iI z)] x := by
  have b0 := w.1.1.1
  have b1 := w.1.1.2.1
  have wp := w.1.2.2.1
  have p0 := wp.1
  have p1 := wp.2.1
  by_cases q : 0 ≤ z ∧ z < x.1 2
  case neg =>
    refine zCq (-1) w (fun σ h => ?_) (fun σ h => ?_)
    · rw [ez_94]
      simp only [zc37 h.1.2.2.2.1.1 ⟨p0, p1⟩ hz, zbs, zBi, decide_eq_false q, cond_false]
      exact ⟨σ, rfl, zFr_r σ⟩
    · rw [ez_185]
      simp only [zm151 (d := 61) h.1 ⟨p0, p1⟩ hz, zbs, zBi, decide_eq_false q, cond_false]
      exact ⟨σ, rfl, zFr_r σ, h.1⟩
  case pos =>
    obtain ⟨p, rfl⟩ := zint q.1
    have hp : p < (x.1 2).toNat := by omega
    have hr := aSeat_r wp hp
    refine zCs (aSit x.1 p (-1)) (iI (cE (aSeat x.1 p))) w (aSit_w w.1 hp ⟨by omega, by omega⟩) (wK_c w.2.2.2.2.2.2.1 w.1.1 (aSit_n (by omega)) (fun i _ _ _ => aSit_n (by omega))) (fun σ h => ?_) (fun σ h => ?_)
    · have h2 := cA_sit (p := p) (z := -1) h.1 w.1 (by omega)
      rw [ez_94]
      simp only [zc37 h.1.2.2.2.1.1 ⟨p0, p1⟩ hz, zbs, zBi, decide_eq_true q, cond_true, zc147_18 (d := 62) (show p < 8 by omega)]
      refine ⟨_, ?_, zFr_w (by omega), h2⟩
      rw [(h.1.2.2.2.1.2 p hp).2.2]
      rfl
    · have h80 := zm180 (d := 61) (z := -1) (σ := σ) (show p < 8 by omega)
      have h80 : zev 63 180 [.inr (.inr (0, 60)), .inl (iI p), .inl (-1)] σ = _ := h80
      rw [ez_185]
      simp only [zm151 (d := 61) h.1 ⟨p0, p1⟩ hz, zbs, zBi, decide_eq_true q, cond_true, zm182 (d := 59) h.1 (show p < 8 by omega) ⟨hr.1, by omega⟩, h80]
      exact ⟨_, rfl, zFr_w (by omega), mS_up h.1⟩
theorem zx_93 {x : zXx} (w : WX x) (z y : Int) (hz : zrn z) (hy : zrn y) : zCall 93 184 [.inl (iI z), .inl (iI y)] x := by
  have b0 := w.1.1.1
  have b1 := w.1.1.2.1
  have wp := w.1.2.2.1
  have p0 := wp.1
  have p1 := wp.2.1
  by_cases q : 0 ≤ z ∧ z < x.1 2
  case neg =>
    refine zCq (-1) w (fun σ h => ?_) (fun σ h => ?_)
    · rw [ez_93]
      simp only [zc37 h.1.2.2.2.1.1 ⟨p0, p1⟩ hz, zbs, zBi, decide_eq_false q, cond_false]
      exact ⟨σ, rfl, zFr_r σ⟩
    · rw [ez_184]
      simp only [zm151 (d := 61) h.1 ⟨p0, p1⟩ hz, zbs, zBi, decide_eq_false q, cond_false]
      exact ⟨σ, rfl, zFr_r σ, h.1⟩
  case pos =>
    obtain ⟨p, rfl⟩ := zint q.1
    have hp : p < (x.1 2).toNat := by omega
    have hr := aSeat_r wp hp
    by_cases q2 : 0 ≤ y ∧ y < x.1 0
    case neg =>
      refine zCq (-1) w (fun σ h => ?_) (fun σ h => ?_)
      · rw [ez_93]
        simp only [zc37 h.1.2.2.2.1.1 ⟨p0, p1⟩ hz, zc13 h.1.1.1 ⟨b0, b1⟩ hy, zbs, zBi, decide_eq_true q, decide_eq_false q2, cond_true, cond_false]
        exact ⟨σ, rfl, zFr_r σ⟩
      · rw [ez_184]
        simp only [zm151 (d := 61) h.1 ⟨p0, p1⟩ hz, zm150 (d := 61) h.1 ⟨b0, b1⟩ hy, zbs, zBi, decide_eq_true q, decide_eq_false q2, cond_true, cond_false]
        exact ⟨σ, rfl, zFr_r σ, h.1⟩
    case pos =>
      obtain ⟨n, rfl⟩ := zint q2.1
      have w2 := w.1.1.2.2 n (by omega)
      have hbb : 0 ≤ x.1 (11 + 5 * n) ∧ x.1 (11 + 5 * n) ≤ 1 := by omega
      cases hk : aBrk x.1 n
      · refine zCs (aSit x.1 p n) (iI (cE (aSeat x.1 p))) w (aSit_w w.1 hp ⟨by omega, by omega⟩) (wK_c w.2.2.2.2.2.2.1 w.1.1 (aSit_n (by omega)) (fun i _ _ _ => aSit_n (by omega))) (fun σ h => ?_) (fun σ h => ?_)
        · have h2 := cA_sit (p := p) (z := n) h.1 w.1 (by omega)
          rw [show cE (n : Int) = n from if_neg (by omega)] at h2
          rw [ez_93]
          simp only [zc37 h.1.2.2.2.1.1 ⟨p0, p1⟩ hz, zc13 h.1.1.1 ⟨b0, b1⟩ hy, zc14 (d := 61) h.1.1 h.1.2.1 w.1.1 hy, zbs, zBi, decide_eq_true q, decide_eq_true q2, cond_true, Int.toNat_natCast, hk, Bool.not_false, Bool.and_true, zc147_18 (d := 62) (show p < 8 by omega)]
          refine ⟨_, ?_, zFr_w (by omega), h2⟩
          rw [(h.1.2.2.2.1.2 p hp).2.2]
        · rw [ez_184]
          simp only [zm151 (d := 61) h.1 ⟨p0, p1⟩ hz, zm150 (d := 61) h.1 ⟨b0, b1⟩ hy, zm157 (d := 60) h.1 (show n < 9 by omega) hbb, zbs, zBi, decide_eq_true q, decide_eq_true q2, cond_true, hk, cond_false, zm182 (d := 59) h.1 (show p < 8 by omega) ⟨hr.1, by omega⟩, zm180 (d := 61) (z := (n : Int)) (σ := σ) (show p < 8 by omega)]
          exact ⟨_, rfl, zFr_w (by omega), mS_up h.1⟩
      · refine zCq (-4) w (fun σ h => ?_) (fun σ h => ?_)
        · rw [ez_93]
          simp only [zc37 h.1.2.2.2.1.1 ⟨p0, p1⟩ hz, zc13 h.1.1.1 ⟨b0, b1⟩ hy, zc14 (d := 61) h.1.1 h.1.2.1 w.1.1 hy, zbs, zBi, decide_eq_true q, decide_eq_true q2, cond_true, Int.toNat_natCast, hk, Bool.not_true, Bool.and_false, cond_false]
          exact ⟨σ, rfl, zFr_r σ⟩
        · rw [ez_184]
          simp only [zm151 (d := 61) h.1 ⟨p0, p1⟩ hz, zm150 (d := 61) h.1 ⟨b0, b1⟩ hy, zm157 (d := 60) h.1 (show n < 9 by omega) hbb, zbs, zBi, decide_eq_true q, decide_eq_true q2, cond_true, hk]
          exact ⟨σ, rfl, zFr_r σ, h.1⟩
theorem wA_rp {S T : zS} (w : wA S) (h3 : wR T) (e : ∀ i, i ≠ 3 → (i < 76 ∨ 88 ≤ i) → T i = S i) : wA T := by
  obtain ⟨wb, ww, wp, wr, wu, wz⟩ := w
  have b1 := wb.2.1
  have p1 := wp.2.1
  refine ⟨wB_c wb (e 0 (by omega) (by omega)) (fun i _ _ _ => e i (by omega) (by omega)) (fun b hb => ?_), wW_c ww (e 4 (by omega) (by omega)) (e 5 (by omega) (by omega)), wP_c wp (e 2 (by omega) (by omega)) (e 0 (by omega) (by omega)) (fun i _ _ _ => e i (by omega) (by omega)) (fun q hq => ?_), h3, wU_c wu (e 1 (by omega) (by omega)) (fun i hi => e i (by omega) (by omega)), by rw [e 6 (by omega) (by omega)]; exact wz⟩
  · have := wb.2.2 b hb
    rw [e _ (by omega) (by omega)]; omega
  · have := wp.2.2 q hq
    rw [e _ (by omega) (by omega)]; omega
theorem cA_rp {g : Nat} {S T : zS} {σ τ : zM} (h : cA g S σ) (w : wA S) (hR : cR g T τ) (e : ∀ i, i ≠ 3 → (i < 76 ∨ 88 ≤ i) → T i = S i) (f : ∀ k, k < 19 → τ.1 g k = σ.1 g k) : cA g T τ := by
  obtain ⟨h1, h2, h3, h4, h5, h6, h7⟩ := h
  obtain ⟨wb, ww, wp, wr, wu, wz⟩ := w
  refine ⟨?_, ?_, ?_, ?_, hR, ?_, ?_⟩
  · exact cB_f (cB_c h1 wb (e 0 (by omega) (by omega)) fun i _ _ _ => e i (by omega) (by omega)) fun k _ _ => f k (by omega)
  · exact cK_f (cK_c h2 wb (e 0 (by omega) (by omega)) fun b hb => e _ (by omega) (by omega)) (f 1 (by decide))
  · exact cW_f (cW_c h3 (e 4 (by omega) (by omega)) (e 5 (by omega) (by omega))) (f 1 (by decide))
  · exact cP_f (cP_c h4 (e 2 (by omega) (by omega)) (fun i _ _ => e i (by omega) (by omega)) wp) fun k _ _ => f k (by omega)
  · exact cU_f (cU_c h6 (e 1 (by omega) (by omega)) fun i _ => e i (by omega) (by omega)) fun k _ _ => f k (by omega)
  · unfold cZ at h7 ⊢
    rw [f 0 (by decide), e 6 (by omega) (by omega)]; exact h7
theorem zx_116 {x : zXx} (w : WX x) : zCall 116 218 [] x := by
  have r0 := w.1.2.2.2.1.1
  have e : ∀ i, i ≠ 3 → zup x.1 3 0 i = x.1 i := fun i hi => zup_n hi
  have e3 : zup x.1 3 0 3 = 0 := zup_s
  refine zCs (zup x.1 3 0) (iI (x.1 3)) w (wA_rp w.1 ⟨by rw [e3]; omega, by rw [e3]; omega, fun r hr => by rw [e3] at hr; exact absurd hr (Nat.not_lt_zero _)⟩ fun i a _ => e i a) (wK_c w.2.2.2.2.2.2.1 w.1.1 (zup_n (by decide)) (fun i _ _ _ => zup_n (by omega))) (fun σ h => ?_) (fun σ h => ?_)
  · rw [ez_116]
    refine ⟨_, by rw [h.1.2.2.2.2.1.1], zFr_w (by omega), cA_rp h.1 w.1 ⟨by rw [zfs, e3]; rfl, fun r hr => by rw [e3] at hr; exact absurd hr (Nat.not_lt_zero _)⟩ (fun i a _ => e i a) fun k _ => zfn (by omega)⟩
  · rw [ez_218]
    exact ⟨_, by rw [h.1 3 (by decide)]; rfl, zFr_w (by omega), mS_up (v := 0) h.1⟩
theorem wA_z {S : zS} {v : Int} (w : wA S) (hv : zrn v) : wA (zup S 6 v) := by
  obtain ⟨wb, ww, wp, wr, wu, wz⟩ := w
  have b1 := wb.2.1
  have p1 := wp.2.1
  have e : ∀ i, i ≠ 6 → zup S 6 v i = S i := fun i hi => zup_n hi
  refine ⟨wB_c wb (e 0 (by omega)) (fun i _ _ _ => e i (by omega)) (fun b hb => ?_), wW_c ww (e 4 (by omega)) (e 5 (by omega)), wP_c wp (e 2 (by omega)) (e 0 (by omega)) (fun i _ _ _ => e i (by omega)) (fun q hq => ?_), wR_c wr (e 3 (by omega)) (by rw [e 0 (by omega)]; exact Int.le_refl _) (fun i _ _ => e i (by omega)), wU_c wu (e 1 (by omega)) (fun i hi => e i (by omega)), by rw [zup_s]; exact hv⟩
  · have := wb.2.2 b hb
    rw [e _ (by omega)]; omega
  · have := wp.2.2 q hq
    rw [e _ (by omega)]; omega
theorem cA_z {g : Nat} {S : zS} {σ : zM} {v : Int} (h : cA g S σ) (w : wA S) : cA g (zup S 6 v) (zwI σ g 0 3 (iI v)) := by
  obtain ⟨h1, h2, h3, h4, h5, h6, h7⟩ := h
  obtain ⟨wb, ww, wp, wr, wu, wz⟩ := w
  have e : ∀ i, i ≠ 6 → zup S 6 v i = S i := fun i hi => zup_n hi
  refine ⟨?_, ?_, ?_, ?_, ?_, ?_, ?_⟩
  · exact cB_f (cB_c h1 wb (e 0 (by omega)) fun i _ _ _ => e i (by omega)) fun k _ _ => zfn (by omega)
  · exact cK_f (cK_c h2 wb (e 0 (by omega)) fun b hb => e _ (by omega)) (zfn (by omega))
  · exact cW_f (cW_c h3 (e 4 (by omega)) (e 5 (by omega))) (zfn (by omega))
  · exact cP_f (cP_c h4 (e 2 (by omega)) (fun i _ _ => e i (by omega)) wp) fun k _ _ => zfn (by omega)
  · exact cR_f (cR_c h5 (e 3 (by omega)) (fun i _ _ => e i (by omega)) wr) (zfe (by omega)) fun k _ _ => zfn (by omega)
  · exact cU_f (cU_c h6 (e 1 (by omega)) fun i _ => e i (by omega)) fun k _ _ => zfn (by omega)
  · unfold cZ
    rw [zfs, zup_s]
theorem zx_119 {x : zXx} (w : WX x) (v : Int) (hv : zrn v) : zCall 119 223 [.inl (iI v)] x := by
  refine zCs (zup x.1 6 v) (iI (x.1 6)) w (wA_z w.1 hv) (wK_c w.2.2.2.2.2.2.1 w.1.1 (zup_n (by decide)) (fun i _ _ _ => zup_n (by omega))) (fun σ h => ?_) (fun σ h => ?_)
  · rw [ez_119]
    refine ⟨_, ?_, zFr_w (by omega), cA_z h.1 w.1⟩
    rw [show σ.1 0 0 3 = iI (x.1 6) from h.1.2.2.2.2.2.2]
  · rw [ez_223]
    exact ⟨_, by rw [h.1 6 (by decide)], zFr_w (by omega), mS_up h.1⟩
def aWz (z : Int32) : Int32 := (Int32.toUInt32 z >>> (Int32.toUInt32 16 &&& Int32.toUInt32 31)).toInt32 - (Int32.toUInt32 z >>> (Int32.toUInt32 16 &&& Int32.toUInt32 31)).toInt32 / 10 * 10
theorem aWz_r (z : Int32) : ∃ v : Int, aWz z = iI v ∧ 0 ≤ v ∧ v ≤ 9 := by
  have h : ∃ k : Nat, k < 65536 ∧ (Int32.toUInt32 z >>> (Int32.toUInt32 16 &&& Int32.toUInt32 31)).toInt32 = iI k := by
    refine ⟨(Int32.toUInt32 z >>> (Int32.toUInt32 16 &&& Int32.toUInt32 31)).toNat, ?_, ?_⟩
    · rw [UInt32.toNat_shiftRight, show (Int32.toUInt32 16 &&& Int32.toUInt32 31).toNat % 32 = 16 by decide, Nat.shiftRight_eq_div_pow]
      have := (Int32.toUInt32 z).toNat_lt
      omega
    · rw [← nI_iI]
      apply Int32.toBitVec_inj.mp
      show (Int32.toUInt32 z >>> (Int32.toUInt32 16 &&& Int32.toUInt32 31)).toBitVec = BitVec.ofNat 32 _
      exact (BitVec.ofNat_toNat _ _).symm.trans (by rfl) |>.symm ▸ (by simp)
  obtain ⟨k, hk, e⟩ := h
  have d10 : iI (k : Int) / 10 = iI ((k : Int) / 10) := by
    apply Int32.toInt_inj.mp
    rw [Int32.toInt_div_of_ne_right _ _ (by decide), t_iI (by omega), t_iI (by omega), show (10 : Int32).toInt = 10 from by decide]
    exact Int.tdiv_eq_ediv_of_nonneg (by omega)
  refine ⟨(k : Int) - (k : Int) / 10 * 10, ?_, by omega, by omega⟩
  unfold aWz
  rw [e, d10]
  show iI k - iI ((k : Int) / 10) * iI 10 = _
  rw [iI_mul, iI_sub]
def aDz (z : Int) : Int := (iI z * 1103515245 + 12345).toInt
theorem aDz_e (z : Int) : iI (aDz z) = iI z * 1103515245 + 12345 := iI_t _
def aWv (z : Int) : Int := (aWz (iI z)).toInt
theorem aWv_e (z : Int) : iI (aWv z) = aWz (iI z) := iI_t _
theorem aWv_r (z : Int) : 0 ≤ aWv z ∧ aWv z ≤ 9 := by
  obtain ⟨v, e, h⟩ := aWz_r (iI z)
  unfold aWv
  rw [e, t_iI (by omega)]
  exact h
def aDr (S : zS) : zS := zup (zup S 6 (aDz (S 6))) 5 (aWv (aDz (S 6)))
theorem zx_120 {x : zXx} (w : WX x) : zCall 120 224 [] x := by
  have hr := aWv_r (aDz (x.1 6))
  have w1 := wA_z (v := aDz (x.1 6)) w.1 (t_rn _)
  refine zCs (aDr x.1) (iI (aWv (aDz (x.1 6)))) w (wA_wt (i := 5) w1 (Or.inr rfl) hr) (wK_c w.2.2.2.2.2.2.1 w.1.1 ((zup_n (by decide)).trans (zup_n (by decide))) (fun i _ _ _ => (zup_n (by omega)).trans (zup_n (by omega)))) (fun σ h => ?_) (fun σ h => ?_)
  · have hz : σ.1 0 0 3 = iI (x.1 6) := h.1.2.2.2.2.2.2
    have e1 : zev 63 122 [.inl (iI (x.1 6))] σ = some (iI (aDz (x.1 6)), 0, σ) := by
      rw [ez_122, aDz_e]
    have e2 : ∀ {σ : zM}, zev 63 123 [.inl (iI (aDz (x.1 6)))] σ = some (iI (aWv (aDz (x.1 6))), 0, σ) := fun {σ} => by
      rw [ez_123, aWv_e]
      rfl
    have h2 := cA_wt (i := 5) (v := aWv (aDz (x.1 6))) (cA_z (v := aDz (x.1 6)) h.1 w.1) w1 (Or.inr rfl)
    rw [ez_120]
    simp only [hz, e1, zbs, zfs, e2]
    exact ⟨_, rfl, zFr_tt (zFr_w (by omega)) (zFr_w (by omega)), h2⟩
  · have h2 := mS_up (i := 5) (v := aWv (aDz (x.1 6))) (mS_up (i := 6) (v := aDz (x.1 6)) h.1)
    rw [aWv_e, aDz_e] at h2
    have h3 : ∀ (τ : zM) (v : Int32), (zwI τ 0 61 5 v).1 0 61 5 = v := fun _ _ => zfs
    have h4 : ∀ (τ : zM) (v : Int32), (zwI τ 0 61 6 v).1 0 61 6 = v := fun _ _ => zfs
    have n6 : Int32.toNatClampNeg 6 = 6 := by decide
    rw [ez_224]
    simp only [h.1 6 (by decide), n6, h3, h4, zgd_t (show zin 6 320 = true by decide)]
    refine ⟨_, ?_, zFr_tt (zFr_w (by omega)) (zFr_w (by omega)), h2⟩
    rw [aWv_e, aDz_e]
    rfl
theorem zc41 {d n : Nat} {b c : Int32} {σ : zM} (hn : n < 6) (h : σ.1 0 19 0 = iI n) : zev (d + 1) 41 [.inr (.inr (0, 19)), .inl b, .inl c] σ = some (iI n, 0, zwI (zwI (zwI σ 0 20 n b) 0 21 n c) 0 19 0 (iI ((n + 1 : Nat) : Int))) := by
  rw [ez_41]
  have e : ∀ (k : Nat) (v : Int32), (zwI (zwI σ 0 20 n b) 0 21 n c).1 0 19 0 = iI n := fun _ _ => by rw [zfe (by omega), zfe (by omega), h]
  simp only [h, zgd_t (iI_ink (z := n) (k := n) rfl hn (by decide)), iI_Nn (show n ≤ 2147483647 by omega), e 0 0, hki1]
def aRp (S : zS) (n : Nat) (b c : Int) : zS := zup (zup (zup S (76 + 2 * n) b) (77 + 2 * n) c) 3 ((n + 1 : Nat) : Int)
theorem aRp_n {S : zS} {n i : Nat} {b c : Int} (h1 : i ≠ 76 + 2 * n) (h2 : i ≠ 77 + 2 * n) (h3 : i ≠ 3) : aRp S n b c i = S i := by
  unfold aRp
  rw [zup_n h3, zup_n h2, zup_n h1]
theorem aRp_3 {S : zS} {n : Nat} {b c : Int} : aRp S n b c 3 = ((n + 1 : Nat) : Int) := zup_s
theorem aRp_b {S : zS} {n : Nat} {b c : Int} : aRp S n b c (76 + 2 * n) = b := by
  unfold aRp
  rw [zup_n (by omega), zup_n (by omega), zup_s]
theorem aRp_c {S : zS} {n : Nat} {b c : Int} : aRp S n b c (77 + 2 * n) = c := by
  unfold aRp
  rw [zup_n (by omega), zup_s]
theorem zx_115 {x : zXx} (w : WX x) (b c : Int) (hb : zrn b) (hc : zrn c) : zCall 115 217 [.inl (iI b), .inl (iI c)] x := by
  have b0 := w.1.1.1
  have b1 := w.1.1.2.1
  have wr := w.1.2.2.2.1
  have r0 := wr.1
  have r1 := wr.2.1
  have c1 : ∀ {σ : zM}, zev 63 141 [.inl (iI c), .inl 0, .inl 1] σ = some (zB (decide (0 ≤ c ∧ c ≤ 1)), 0, σ) := zc141 (l := 0) (h := 1) hc (by decide) (by decide)
  have m1 : ∀ {σ : zM}, zev 63 149 [.inr (.inl (Int32.toInt64 (iI c))), .inr (.inl 0), .inr (.inl 1)] σ = some (zB (decide (0 ≤ c ∧ c ≤ 1)), 0, σ) := zm149k (l := 0) (h := 1) hc (by decide) (by decide)
  by_cases q1 : 0 ≤ b ∧ b < x.1 0
  case neg =>
    refine zCq (-1) w (fun σ h => ?_) (fun σ h => ?_)
    · rw [ez_115]
      simp only [zc13 h.1.1.1 ⟨b0, b1⟩ hb, zbs, zBi, decide_eq_false q1, cond_false]
      exact ⟨σ, rfl, zFr_r σ⟩
    · rw [ez_217]
      simp only [zm150 (d := 61) h.1 ⟨b0, b1⟩ hb, zbs, zBi, decide_eq_false q1, cond_false]
      exact ⟨σ, rfl, zFr_r σ, h.1⟩
  case pos =>
    by_cases q2 : 0 ≤ c ∧ c ≤ 1
    case neg =>
      refine zCq (-1) w (fun σ h => ?_) (fun σ h => ?_)
      · rw [ez_115]
        simp only [zc13 h.1.1.1 ⟨b0, b1⟩ hb, c1, zbs, zBi, decide_eq_true q1, decide_eq_false q2, cond_true, cond_false]
        exact ⟨σ, rfl, zFr_r σ⟩
      · rw [ez_217]
        simp only [zm150 (d := 61) h.1 ⟨b0, b1⟩ hb, m1, zbs, zBi, decide_eq_true q1, decide_eq_false q2, cond_true, cond_false]
        exact ⟨σ, rfl, zFr_r σ, h.1⟩
    case pos =>
      obtain ⟨n, hn⟩ := zint r0
      have e6 : ∀ {z : Int}, zrn z → (iI z < 6) = (z < 6) := fun h => iI_lt (b := 6) h (by decide)
      have e6' : ∀ {z : Int}, zrn z → (iI z = 6) = (z = 6) := fun h => iI_eq (b := 6) h (by decide)
      by_cases q3 : n = 6
      · refine zCq (-2) w (fun σ h => ?_) (fun σ h => ?_)
        · rw [ez_115]
          simp only [zc13 h.1.1.1 ⟨b0, b1⟩ hb, c1, zbs, zBi, decide_eq_true q1, decide_eq_true q2, cond_true, h.1.2.2.2.2.1.1, hn, e6 (show zrn (n : Int) by omega)]
          rw [if_neg (by omega)]
          exact ⟨σ, rfl, zFr_r σ⟩
        · rw [ez_217]
          simp only [zm150 (d := 61) h.1 ⟨b0, b1⟩ hb, m1, zbs, zBi, decide_eq_true q1, decide_eq_true q2, cond_true, h.1 3 (by decide), hn, e6' (show zrn (n : Int) by omega)]
          rw [if_pos (by omega)]
          exact ⟨σ, rfl, zFr_r σ, h.1⟩
      · have hT0 : aRp x.1 n b c 0 = x.1 0 := aRp_n (by omega) (by omega) (by omega)
        have eT : ∀ i, i ≠ 3 → (i < 76 ∨ 88 ≤ i) → aRp x.1 n b c i = x.1 i := fun i a b => aRp_n (by omega) (by omega) a
        have wT : wA (aRp x.1 n b c) := by
          refine wA_rp w.1 ⟨by rw [aRp_3]; omega, by rw [aRp_3]; omega, fun r hr => ?_⟩ eT
          rw [aRp_3] at hr
          rw [hT0]
          by_cases e : r = n
          · subst e
            rw [aRp_b, aRp_c]; omega
          · have := wr.2.2 r (by omega)
            rw [aRp_n (by omega) (by omega) (by omega), aRp_n (by omega) (by omega) (by omega)]
            exact this
        refine zCs (aRp x.1 n b c) (iI n) w wT (wK_c w.2.2.2.2.2.2.1 w.1.1 (aRp_n (by omega) (by omega) (by omega)) (fun i _ _ _ => aRp_n (by omega) (by omega) (by omega))) (fun σ h => ?_) (fun σ h => ?_)
        · have h19 : σ.1 0 19 0 = iI n := by rw [← hn]; exact h.1.2.2.2.2.1.1
          rw [ez_115]
          simp only [zc13 h.1.1.1 ⟨b0, b1⟩ hb, c1, zbs, zBi, decide_eq_true q1, decide_eq_true q2, cond_true, h19, e6 (show zrn (n : Int) by omega)]
          rw [if_pos (by omega), zc41 (d := 62) (show n < 6 by omega) h19]
          refine ⟨_, rfl, zFr_tt (zFr_tt (zFr_w (by omega)) (zFr_w (by omega))) (zFr_w (by omega)), cA_rp h.1 w.1 ⟨by rw [zfs, aRp_3], fun r hr => ?_⟩ eT fun k hk => by rw [zfn (by omega), zfn (by omega), zfn (by omega)]⟩
          rw [aRp_3] at hr
          by_cases e : r = n
          · subst e
            rw [aRp_b, aRp_c, zfe (by omega), zfe (by omega), zfs, zfe (by omega), zfs]
            exact ⟨rfl, rfl⟩
          · have := h.1.2.2.2.2.1.2 r (by omega)
            rw [aRp_n (by omega) (by omega) (by omega), aRp_n (by omega) (by omega) (by omega), zfe (by omega), zfe (by omega), zfe (by omega), zfe (by omega), zfe (by omega), zfe (by omega)]
            exact this
        · have i76 : (76 : Int32) + 2 * iI n = iI ((76 + 2 * n : Nat) : Int) := by
            show iI 76 + iI 2 * iI n = _
            rw [iI_mul, iI_add]; congr 1
          have i77 : iI ((76 + 2 * n : Nat) : Int) + 1 = iI ((77 + 2 * n : Nat) : Int) := by
            rw [iI_a1]; congr 1; omega
          have h3 : ∀ (v1 v2 : Int32), (zwI (zwI σ 0 61 (76 + 2 * n) v1) 0 61 (77 + 2 * n) v2).1 0 61 3 = iI n := fun v1 v2 => by rw [zfe (by omega), zfe (by omega), h.1 3 (by decide), hn]
          have h3' : ∀ (v1 : Int32), (zwI σ 0 61 (76 + 2 * n) v1).1 0 61 3 = iI n := fun v1 => by rw [zfe (by omega), h.1 3 (by decide), hn]
          have h5 : ∀ (τ : zM) (v : Int32), (zwI τ 0 61 3 v).1 0 61 3 = v := fun _ _ => zfs
          rw [ez_217]
          simp only [zm150 (d := 61) h.1 ⟨b0, b1⟩ hb, m1, zbs, zBi, decide_eq_true q1, decide_eq_true q2, cond_true, h.1 3 (by decide), hn, e6' (show zrn (n : Int) by omega), i76, zgd_t (iI_ink (z := ((76 + 2 * n : Nat) : Int)) (k := 76 + 2 * n) rfl (show 76 + 2 * n < 320 by omega) (by decide)), iI_Nn (show 76 + 2 * n ≤ 2147483647 by omega), h3', i77, zgd_t (iI_ink (z := ((77 + 2 * n : Nat) : Int)) (k := 77 + 2 * n) rfl (show 77 + 2 * n < 320 by omega) (by decide)), iI_Nn (show 77 + 2 * n ≤ 2147483647 by omega), h3, h5, hki1]
          rw [if_neg (by omega)]
          refine ⟨_, ?_, zFr_tt (zFr_tt (zFr_w (by omega)) (zFr_w (by omega))) (zFr_w (by omega)), mS_up (mS_up (mS_up h.1))⟩
          rw [iI_s1, show ((n + 1 : Nat) : Int) - 1 = n by omega]
def aPn (S : zS) (n : Nat) (a s : Int) : zS := zup (zup (zup (zup S (52 + 3 * n) a) (53 + 3 * n) s) (54 + 3 * n) 0) 2 ((n + 1 : Nat) : Int)
theorem aPn_n {S : zS} {n i : Nat} {a s : Int} (h1 : i ≠ 52 + 3 * n) (h2 : i ≠ 53 + 3 * n) (h3 : i ≠ 54 + 3 * n) (h4 : i ≠ 2) : aPn S n a s i = S i := by
  unfold aPn
  rw [zup_n h4, zup_n h3, zup_n h2, zup_n h1]
theorem aPn_2 {S : zS} {n : Nat} {a s : Int} : aPn S n a s 2 = ((n + 1 : Nat) : Int) := zup_s
theorem aPn_a {S : zS} {n : Nat} {a s : Int} : aPn S n a s (52 + 3 * n) = a := by
  unfold aPn
  rw [zup_n (by omega), zup_n (by omega), zup_n (by omega), zup_s]
theorem aPn_s {S : zS} {n : Nat} {a s : Int} : aPn S n a s (53 + 3 * n) = s := by
  unfold aPn
  rw [zup_n (by omega), zup_n (by omega), zup_s]
theorem aPn_0 {S : zS} {n : Nat} {a s : Int} : aPn S n a s (54 + 3 * n) = 0 := by
  unfold aPn
  rw [zup_n (by omega), zup_s]
theorem zc36 {d n : Nat} {a s : Int32} {σ : zM} (hn : n < 8) (h : σ.1 0 15 0 = iI n) : zev (d + 1) 36 [.inr (.inr (0, 15)), .inl a, .inl s] σ = some (iI n, 0, zwI (zwI (zwI (zwI σ 0 16 n a) 0 17 n s) 0 18 n (-9)) 0 15 0 (iI ((n + 1 : Nat) : Int))) := by
  rw [ez_36]
  have e : (zwI (zwI (zwI σ 0 16 n a) 0 17 n s) 0 18 n (-9)).1 0 15 0 = iI n := by rw [zfe (by omega), zfe (by omega), zfe (by omega), h]
  simp only [h, zgd_t (iI_ink (z := n) (k := n) rfl hn (by decide)), iI_Nn (show n ≤ 2147483647 by omega), e, hki1]
theorem zx_91 {x : zXx} (w : WX x) (a s : Int) (ha : zrn a) (hs : zrn s) : zCall 91 181 [.inl (iI a), .inl (iI s)] x := by
  obtain ⟨wb, ww, wp, wr, wu, wz⟩ := w.1
  have b0 := wb.1
  have b1 := wb.2.1
  have p0 := wp.1
  have p1 := wp.2.1
  have r1 : ∀ {σ : zM}, zev 63 141 [.inl (iI a), .inl 1, .inl 200] σ = some (zB (decide (1 ≤ a ∧ a ≤ 200)), 0, σ) := zc141 (l := 1) (h := 200) ha (by decide) (by decide)
  have m1 : ∀ {σ : zM}, zev 63 149 [.inr (.inl (Int32.toInt64 (iI a))), .inr (.inl 1), .inr (.inl 200)] σ = some (zB (decide (1 ≤ a ∧ a ≤ 200)), 0, σ) := zm149k (l := 1) (h := 200) ha (by decide) (by decide)
  have m2 : ∀ {σ : zM}, zev 63 149 [.inr (.inl (Int32.toInt64 (iI s))), .inr (.inl 0), .inr (.inl 1)] σ = some (zB (decide (0 ≤ s ∧ s ≤ 1)), 0, σ) := zm149k (l := 0) (h := 1) hs (by decide) (by decide)
  by_cases q1 : 1 ≤ a ∧ a ≤ 200
  case neg =>
    refine zCq (-1) w (fun σ h => ?_) (fun σ h => ?_)
    · rw [ez_91]
      simp only [r1, zbs, zBi, decide_eq_false q1, cond_false]
      exact ⟨σ, rfl, zFr_r σ⟩
    · rw [ez_181]
      simp only [m1, zbs, zBi, decide_eq_false q1, cond_false]
      exact ⟨σ, rfl, zFr_r σ, h.1⟩
  case pos =>
    by_cases q2 : 0 ≤ s ∧ s ≤ 1
    case neg =>
      refine zCq (-1) w (fun σ h => ?_) (fun σ h => ?_)
      · rw [ez_91]
        simp only [r1, zc143 hs, zbs, zBi, decide_eq_true q1, decide_eq_false q2, cond_true, cond_false]
        exact ⟨σ, rfl, zFr_r σ⟩
      · rw [ez_181]
        simp only [m1, m2, zbs, zBi, decide_eq_true q1, decide_eq_false q2, cond_true, cond_false]
        exact ⟨σ, rfl, zFr_r σ, h.1⟩
    case pos =>
      obtain ⟨n, hn⟩ := zint p0
      have e8 : ∀ {z : Int}, zrn z → (iI z < 8) = (z < 8) := fun h => iI_lt (b := 8) h (by decide)
      have e8' : ∀ {z : Int}, zrn z → (iI z = 8) = (z = 8) := fun h => iI_eq (b := 8) h (by decide)
      by_cases q3 : n = 8
      · refine zCq (-2) w (fun σ h => ?_) (fun σ h => ?_)
        · rw [ez_91]
          simp only [r1, zc143 hs, zbs, zBi, decide_eq_true q1, decide_eq_true q2, cond_true, h.1.2.2.2.1.1, hn, e8 (show zrn (n : Int) by omega)]
          rw [if_neg (by omega)]
          exact ⟨σ, rfl, zFr_r σ⟩
        · rw [ez_181]
          simp only [m1, m2, zbs, zBi, decide_eq_true q1, decide_eq_true q2, cond_true, h.1 2 (by decide), hn, e8' (show zrn (n : Int) by omega)]
          rw [if_pos (by omega)]
          exact ⟨σ, rfl, zFr_r σ, h.1⟩
      · have eT : ∀ i, i ≠ 2 → (i < 52 ∨ 76 ≤ i) → aPn x.1 n a s i = x.1 i := fun i c d => aPn_n (by omega) (by omega) (by omega) c
        have hT0 : aPn x.1 n a s 0 = x.1 0 := eT 0 (by omega) (by omega)
        have wT : wA (aPn x.1 n a s) := by
          refine ⟨wB_c wb hT0 (fun i _ _ _ => eT i (by omega) (by omega)) (fun b hb => ?_), wW_c ww (eT 4 (by omega) (by omega)) (eT 5 (by omega) (by omega)), ⟨by rw [aPn_2]; omega, by rw [aPn_2]; omega, fun p hp => ?_⟩, wR_c wr (eT 3 (by omega) (by omega)) (by rw [hT0]; exact Int.le_refl _) (fun i _ _ => eT i (by omega) (by omega)), wU_c wu (eT 1 (by omega) (by omega)) (fun i hi => eT i (by omega) (by omega)), by rw [eT 6 (by omega) (by omega)]; exact wz⟩
          · have := wb.2.2 b hb
            rw [eT _ (by omega) (by omega)]; omega
          · rw [aPn_2] at hp
            rw [hT0]
            by_cases e : p = n
            · subst e
              rw [aPn_a, aPn_s, aPn_0]; omega
            · have := wp.2.2 p (by omega)
              rw [aPn_n (by omega) (by omega) (by omega) (by omega), aPn_n (by omega) (by omega) (by omega) (by omega), aPn_n (by omega) (by omega) (by omega) (by omega)]
              exact this
        refine zCs (aPn x.1 n a s) (iI n) w wT (wK_c w.2.2.2.2.2.2.1 w.1.1 (aPn_n (by omega) (by omega) (by omega) (by omega)) (fun i _ _ _ => aPn_n (by omega) (by omega) (by omega) (by omega))) (fun σ h => ?_) (fun σ h => ?_)
        · have h15 : σ.1 0 15 0 = iI n := by rw [← hn]; exact h.1.2.2.2.1.1
          rw [ez_91]
          simp only [r1, zc143 hs, zbs, zBi, decide_eq_true q1, decide_eq_true q2, cond_true, h15, e8 (show zrn (n : Int) by omega)]
          rw [if_pos (by omega), zc36 (d := 62) (show n < 8 by omega) h15]
          obtain ⟨h1, h2, h3, h4, h5, h6, h7⟩ := h.1
          have f : ∀ k, k < 15 ∨ 18 < k → (zwI (zwI (zwI (zwI σ 0 16 n (iI a)) 0 17 n (iI s)) 0 18 n (-9)) 0 15 0 (iI ((n + 1 : Nat) : Int))).1 0 k = σ.1 0 k := fun k hk => by rw [zfn (by omega), zfn (by omega), zfn (by omega), zfn (by omega)]
          refine ⟨_, rfl, zFr_tt (zFr_tt (zFr_tt (zFr_w (by omega)) (zFr_w (by omega))) (zFr_w (by omega))) (zFr_w (by omega)), ?_, ?_, ?_, ⟨by rw [zfs, aPn_2], fun p hp => ?_⟩, ?_, ?_, ?_⟩
          · exact cB_f (cB_c h1 wb hT0 fun i _ _ _ => eT i (by omega) (by omega)) fun k _ _ => f k (by omega)
          · exact cK_f (cK_c h2 wb hT0 fun b hb => eT _ (by omega) (by omega)) (f 1 (by omega))
          · exact cW_f (cW_c h3 (eT 4 (by omega) (by omega)) (eT 5 (by omega) (by omega))) (f 1 (by omega))
          · rw [aPn_2] at hp
            by_cases e : p = n
            · subst e
              have hse : aSeat (aPn x.1 p a s) p = -1 := by unfold aSeat; rw [aPn_0]; rfl
              rw [aPn_a, aPn_s, hse, zfe (by omega), zfe (by omega), zfe (by omega), zfs, zfe (by omega), zfe (by omega), zfs, zfe (by omega), zfs]
              exact ⟨rfl, rfl, rfl⟩
            · have := h4.2 p (by omega)
              have hse : aSeat (aPn x.1 n a s) p = aSeat x.1 p := by unfold aSeat; rw [aPn_n (by omega) (by omega) (by omega) (by omega)]
              rw [aPn_n (by omega) (by omega) (by omega) (by omega), aPn_n (by omega) (by omega) (by omega) (by omega), hse, zfe (by omega), zfe (by omega), zfe (by omega), zfe (by omega), zfe (by omega), zfe (by omega), zfe (by omega), zfe (by omega), zfe (by omega), zfe (by omega), zfe (by omega), zfe (by omega)]
              exact this
          · exact cR_f (cR_c h5 (eT 3 (by omega) (by omega)) (fun i _ _ => eT i (by omega) (by omega)) wr) (by rw [f 19 (by omega)]) fun k _ _ => f k (by omega)
          · exact cU_f (cU_c h6 (eT 1 (by omega) (by omega)) fun i _ => eT i (by omega) (by omega)) fun k _ _ => f k (by omega)
          · unfold cZ at h7 ⊢
            rw [f 0 (by omega), eT 6 (by omega) (by omega)]; exact h7
        · have i0 : ∀ {σ : zM}, zev 63 177 [.inl (iI n), .inl 0] σ = some (iI ((52 + 3 * n + 0 : Nat) : Int), 0, σ) := zm177 (d := 62) (p := n) (w := 0)
          have i1 : ∀ {σ : zM}, zev 63 177 [.inl (iI n), .inl 1] σ = some (iI ((53 + 3 * n : Nat) : Int), 0, σ) := fun {σ} => by
            have := zm177 (d := 62) (p := n) (w := 1) (σ := σ)
            rw [show 52 + 3 * n + 1 = 53 + 3 * n by omega] at this
            exact this
          have i2 : ∀ {σ : zM}, zev 63 177 [.inl (iI n), .inl 2] σ = some (iI ((54 + 3 * n : Nat) : Int), 0, σ) := fun {σ} => by
            have := zm177 (d := 62) (p := n) (w := 2) (σ := σ)
            rw [show 52 + 3 * n + 2 = 54 + 3 * n by omega] at this
            exact this
          have h3 : ∀ (v1 v2 v3 : Int32), (zwI (zwI (zwI σ 0 61 (52 + 3 * n) v1) 0 61 (53 + 3 * n) v2) 0 61 (54 + 3 * n) v3).1 0 61 2 = iI n := fun v1 v2 v3 => by rw [zfe (by omega), zfe (by omega), zfe (by omega), h.1 2 (by decide), hn]
          rw [ez_181]
          simp only [m1, m2, zbs, zBi, decide_eq_true q1, decide_eq_true q2, cond_true, h.1 2 (by decide), hn, e8' (show zrn (n : Int) by omega), i0, i1, i2, Nat.add_zero, zgd_t (iI_ink (z := ((52 + 3 * n : Nat) : Int)) (k := 52 + 3 * n) rfl (show 52 + 3 * n < 320 by omega) (by decide)), iI_Nn (show 52 + 3 * n ≤ 2147483647 by omega), zgd_t (iI_ink (z := ((53 + 3 * n : Nat) : Int)) (k := 53 + 3 * n) rfl (show 53 + 3 * n < 320 by omega) (by decide)), iI_Nn (show 53 + 3 * n ≤ 2147483647 by omega), zgd_t (iI_ink (z := ((54 + 3 * n : Nat) : Int)) (k := 54 + 3 * n) rfl (show 54 + 3 * n < 320 by omega) (by decide)), iI_Nn (show 54 + 3 * n ≤ 2147483647 by omega), h3, hki1]
          rw [if_neg (by omega)]
          exact ⟨_, rfl, zFr_tt (zFr_tt (zFr_tt (zFr_w (by omega)) (zFr_w (by omega))) (zFr_w (by omega))) (zFr_w (by omega)), mS_up (mS_up (v := 0) (mS_up (mS_up h.1)))⟩
def aNw (S : zS) (n : Nat) (k on l h : Int) : zS := zup (zup (zup (zup (zup (zup S (7 + 5 * n) k) (8 + 5 * n) (on + 1)) (9 + 5 * n) l) (10 + 5 * n) h) (11 + 5 * n) 0) 0 ((n + 1 : Nat) : Int)
theorem aNw_n {S : zS} {n i : Nat} {k on l h : Int} (h1 : i < 7 + 5 * n ∨ 11 + 5 * n < i) (h2 : i ≠ 0) : aNw S n k on l h i = S i := by
  unfold aNw
  rw [zup_n h2, zup_n (by omega), zup_n (by omega), zup_n (by omega), zup_n (by omega), zup_n (by omega)]
theorem aNw_0 {S : zS} {n : Nat} {k on l h : Int} : aNw S n k on l h 0 = ((n + 1 : Nat) : Int) := zup_s
theorem aNw_at {S : zS} {n : Nat} {k on l h : Int} : aNw S n k on l h (7 + 5 * n) = k ∧ aNw S n k on l h (8 + 5 * n) = on + 1 ∧ aNw S n k on l h (9 + 5 * n) = l ∧ aNw S n k on l h (10 + 5 * n) = h ∧ aNw S n k on l h (11 + 5 * n) = 0 := by
  unfold aNw
  refine ⟨?_, ?_, ?_, ?_, ?_⟩
  · rw [zup_n (by omega), zup_n (by omega), zup_n (by omega), zup_n (by omega), zup_n (by omega), zup_s]
  · rw [zup_n (by omega), zup_n (by omega), zup_n (by omega), zup_n (by omega), zup_s]
  · rw [zup_n (by omega), zup_n (by omega), zup_n (by omega), zup_s]
  · rw [zup_n (by omega), zup_n (by omega), zup_s]
  · rw [zup_n (by omega), zup_s]
theorem wA_nw {S : zS} {n : Nat} {k on l h : Int} (w : wA S) (hn : S 0 = n) (hn9 : n < 9) (hk : 1 ≤ k ∧ k ≤ 5) (ho : -1 ≤ on ∧ on < n) (hl : 1 ≤ l ∧ l ≤ 9) (hh : 1 ≤ h ∧ h ≤ 999) : wA (aNw S n k on l h) := by
  obtain ⟨wb, ww, wp, wr, wu, wz⟩ := w
  have p1 := wp.2.1
  have e : ∀ i, i ≠ 0 → (i < 7 ∨ 52 ≤ i) → aNw S n k on l h i = S i := fun i a b => aNw_n (by omega) a
  obtain ⟨a1, a2, a3, a4, a5⟩ := aNw_at (S := S) (n := n) (k := k) (on := on) (l := l) (h := h)
  refine ⟨⟨by rw [aNw_0]; omega, by rw [aNw_0]; omega, fun b hb => ?_⟩, wW_c ww (e 4 (by omega) (by omega)) (e 5 (by omega) (by omega)), ⟨by rw [e 2 (by omega) (by omega)]; exact wp.1, by rw [e 2 (by omega) (by omega)]; exact wp.2.1, fun p hp => ?_⟩, wR_c wr (e 3 (by omega) (by omega)) (by rw [aNw_0]; omega) (fun i _ _ => e i (by omega) (by omega)), wU_c wu (e 1 (by omega) (by omega)) (fun i hi => e i (by omega) (by omega)), by rw [e 6 (by omega) (by omega)]; exact wz⟩
  · rw [aNw_0] at hb
    by_cases q : b = n
    · subst q
      rw [a1, a2, a3, a4, a5]; omega
    · have := wb.2.2 b (by omega)
      rw [aNw_n (by omega) (by omega), aNw_n (by omega) (by omega), aNw_n (by omega) (by omega), aNw_n (by omega) (by omega), aNw_n (by omega) (by omega)]
      exact this
  · rw [e 2 (by omega) (by omega)] at hp
    have := wp.2.2 p hp
    rw [e _ (by omega) (by omega), e _ (by omega) (by omega), e _ (by omega) (by omega), aNw_0]
    omega
theorem aNw_ab {S : zS} {n : Nat} {k on l h : Int} (wb : wB S) (hn : S 0 = n) {c u : Nat} (hc : c < n) : aAb (aNw S n k on l h) c u = aAb S c u := by
  have key : ∀ (m c : Nat), c < n → aAbF (aNw S n k on l h) m c u = aAbF S m c u := by
    intro m
    induction m with
    | zero => intro c _; rfl
    | succ m ih =>
      intro c hc
      have w2 := wb.2.2 c (by omega)
      have e : aPar (aNw S n k on l h) c = aPar S c := by unfold aPar; rw [aNw_n (by omega) (by omega)]
      show (Nat.beq c u || (decide (0 ≤ aPar (aNw S n k on l h) c) && aAbF (aNw S n k on l h) m (aPar (aNw S n k on l h) c).toNat u)) = (Nat.beq c u || (decide (0 ≤ aPar S c) && aAbF S m (aPar S c).toNat u))
      rw [e]
      by_cases q : 0 ≤ aPar S c
      · rw [ih _ (by unfold aPar at q ⊢; omega)]
      · rw [decide_eq_false q, Bool.false_and, Bool.false_and]
  exact key 9 c hc
theorem zc12 {d n : Nat} {k on l h : Int} {S : zS} {σ : zM} (hB : cB 0 S σ) (wb : wB S) (hn : S 0 = n) (hn9 : n < 9) (ho : -1 ≤ on ∧ on < n) : ∃ v : Int32, zev (d + 2) 12 [.inr (.inr (0, 1)), .inl (iI k), .inl (iI (cE on)), .inl (iI l), .inl (iI h)] σ = some (iI n, 0, zwI (zwI (zwI (zwI (zwI (zwI σ 0 2 n (iI k)) 0 3 n (iI (cE on))) 0 4 n (iI l)) 0 5 n (iI h)) 0 6 n v) 0 1 0 (iI ((n + 1 : Nat) : Int))) ∧ ∀ u, u < 9 → bt v u = (Nat.beq n u || aAbI S on u) := by
  have h0 : σ.1 0 1 0 = iI n := by rw [← hn]; exact hB.1
  have e4 : (zwI (zwI (zwI (zwI σ 0 2 n (iI k)) 0 3 n (iI (cE on))) 0 4 n (iI l)) 0 5 n (iI h)).1 0 1 0 = iI (S 0) := by rw [zfe (by omega), zfe (by omega), zfe (by omega), zfe (by omega)]; exact hB.1
  have e5 : ∀ v : Int32, (zwI (zwI (zwI (zwI (zwI σ 0 2 n (iI k)) 0 3 n (iI (cE on))) 0 4 n (iI l)) 0 5 n (iI h)) 0 6 n v).1 0 1 0 = iI n := fun v => by rw [zfe (by omega), e4, hn]
  have hcz : zrn (cE on) := by unfold cE; split <;> omega
  have hb1 : ∀ u, u < 9 → bt (1 <<< (iI n &&& 31)) u = Nat.beq n u := fun u hu => by
    rw [bt_one (by omega) (by omega)]
    cases q : Nat.beq n u
    · exact decide_eq_false (fun z => by rw [z, Nat.beq_refl] at q; cases q)
    · exact decide_eq_true (Nat.eq_of_beq_eq_true q).symm
  rw [ez_12]
  simp only [h0, zgd_t (iI_ink (z := n) (k := n) rfl hn9 (by decide)), iI_Nn (show n ≤ 2147483647 by omega), zc13 e4 (show 0 ≤ S 0 ∧ S 0 ≤ 9 by omega) hcz, zbs, zBi, e5, hki1]
  by_cases q : on < 0
  · rw [decide_eq_false (by rw [show cE on = -9 from if_pos q]; omega), cond_false]
    refine ⟨_, rfl, fun u hu => ?_⟩
    rw [Int32.or_zero, hb1 u hu, aAbI_n q, Bool.or_false]
  · have hce : cE on = on := if_neg q
    obtain ⟨m, rfl⟩ := zint (show 0 ≤ on by omega)
    rw [hce, decide_eq_true (by omega), cond_true]
    simp only [zgd_t (iI_ink (z := m) (k := m) rfl (show m < 9 by omega) (by decide)), iI_Nn (show m ≤ 2147483647 by omega)]
    refine ⟨_, rfl, fun u hu => ?_⟩
    rw [b_or, hb1 u hu, zfe (by omega), zfe (by omega), zfe (by omega), zfe (by omega), (hB.2 m (by omega)).2.2.2.2 u hu, aAbI_p]
theorem zx_84 {x : zXx} (w : WX x) (k on l h : Int) (hk : zrn k) (ho : zrn on) (hl : zrn l) (hh : zrn h) : zCall 84 160 [.inl (iI k), .inl (iI on), .inl (iI l), .inl (iI h)] x := by
  obtain ⟨wb, ww, wp, wr, wu, wz⟩ := w.1
  have b0 := wb.1
  have b1 := wb.2.1
  have r1 : ∀ {σ : zM}, zev 63 142 [.inl (iI k)] σ = some (zB (decide (1 ≤ k ∧ k ≤ 5)), 0, σ) := fun {σ} => by
    have e : zev 62 141 [.inl (iI k), .inl 1, .inl 5] σ = some (zB (decide (1 ≤ k ∧ k ≤ 5)), 0, σ) := zc141 (l := 1) (h := 5) hk (by decide) (by decide)
    rw [ez_142]
    simp only [e, zbs]
    exact zB_g
  have r2 : ∀ {σ : zM}, zev 63 141 [.inl (iI l), .inl 1, .inl 9] σ = some (zB (decide (1 ≤ l ∧ l ≤ 9)), 0, σ) := zc141 (l := 1) (h := 9) hl (by decide) (by decide)
  have r3 : ∀ {σ : zM}, zev 63 141 [.inl (iI h), .inl 1, .inl 999] σ = some (zB (decide (1 ≤ h ∧ h ≤ 999)), 0, σ) := zc141 (l := 1) (h := 999) hh (by decide) (by decide)
  have m1 : ∀ {σ : zM}, zev 63 149 [.inr (.inl (Int32.toInt64 (iI k))), .inr (.inl 1), .inr (.inl 5)] σ = some (zB (decide (1 ≤ k ∧ k ≤ 5)), 0, σ) := zm149k (l := 1) (h := 5) hk (by decide) (by decide)
  have m2 : ∀ {σ : zM}, zev 63 159 [.inl 2, .inl (iI l)] σ = some (zB (decide (1 ≤ l ∧ l ≤ 9)), 0, σ) := fun {σ} => by
    have := zm159 (d := 61) (a := 2) (v := l) (σ := σ) (by decide) hl
    rw [zdec (show (((2 : Int) = 2 ∧ 1 ≤ l ∧ l ≤ 9) ∨ ((2 : Int) = 3 ∧ 1 ≤ l ∧ l ≤ 999)) ↔ (1 ≤ l ∧ l ≤ 9) by omega)] at this
    exact this
  have m3 : ∀ {σ : zM}, zev 63 159 [.inl 3, .inl (iI h)] σ = some (zB (decide (1 ≤ h ∧ h ≤ 999)), 0, σ) := fun {σ} => by
    have := zm159 (d := 61) (a := 3) (v := h) (σ := σ) (by decide) hh
    rw [zdec (show (((3 : Int) = 2 ∧ 1 ≤ h ∧ h ≤ 9) ∨ ((3 : Int) = 3 ∧ 1 ≤ h ∧ h ≤ 999)) ↔ (1 ≤ h ∧ h ≤ 999) by omega)] at this
    exact this
  have eo : (iI on = -1) = (on = -1) := by rw [zlitm1]; exact iI_eq ho (by decide)
  have hc : ∀ σ, RC x σ → (¬ (1 ≤ k ∧ k ≤ 5) ∨ (on ≠ -1 ∧ ¬ (0 ≤ on ∧ on < x.1 0)) → zev 64 84 [.inr (.inr (0, 30)), .inl (iI k), .inl (iI on), .inl (iI l), .inl (iI h)] σ = some (-1, 0, σ)) ∧ ((1 ≤ k ∧ k ≤ 5) → (on = -1 ∨ (0 ≤ on ∧ on < x.1 0)) → zev 64 84 [.inr (.inr (0, 30)), .inl (iI k), .inl (iI on), .inl (iI l), .inl (iI h)] σ = zrun (zev 63) zT_84 40 [some (.inr (.inr (0, 30))), some (.inl (iI k)), some (.inl (iI on)), some (.inl (iI l)), some (.inl (iI h)), some (.inl (zB (decide (on = -1))))] [] σ) := by
    intro σ hR
    have e13 := zc13 (d := 62) (z := on) hR.1.1.1 ⟨b0, b1⟩ ho
    rw [ez_84]
    simp only [eo]
    constructor
    · intro hbad
      by_cases q : on = -1
      · rw [if_pos q, ez_84_10, r1, decide_eq_false (by omega)]; rfl
      · rw [if_neg q, ez_84_10, r1]
        simp only [zbs, zBi]
        by_cases q1 : 1 ≤ k ∧ k ≤ 5
        · rw [decide_eq_true q1, cond_true, if_pos trivial, e13, decide_eq_false (by omega)]; rfl
        · rw [decide_eq_false q1]; rfl
    · intro q1 q2
      by_cases q : on = -1
      · rw [if_pos q, ez_84_10, r1, decide_eq_true q1, decide_eq_true q]
        simp only [zbs, zBi, cond_true]
        rw [if_neg (by decide)]
        rfl
      · rw [if_neg q, ez_84_10, r1, decide_eq_true q1, decide_eq_false q]
        simp only [zbs, zBi, cond_true]
        rw [if_pos trivial, e13, decide_eq_true (by omega)]
        simp only [zbs, zBi, cond_true]
        rfl
  have hm : ∀ σ, RM x σ → (¬ (1 ≤ k ∧ k ≤ 5) ∨ (on ≠ -1 ∧ ¬ (0 ≤ on ∧ on < x.1 0)) → zev 64 160 [.inr (.inr (0, 60)), .inl (iI k), .inl (iI on), .inl (iI l), .inl (iI h)] σ = some (-1, 0, σ)) ∧ ((1 ≤ k ∧ k ≤ 5) → (on = -1 ∨ (0 ≤ on ∧ on < x.1 0)) → zev 64 160 [.inr (.inr (0, 60)), .inl (iI k), .inl (iI on), .inl (iI l), .inl (iI h)] σ = zrun (zev 63) zT_160 25 [some (.inr (.inr (0, 60))), some (.inl (iI k)), some (.inl (iI on)), some (.inl (iI l)), some (.inl (iI h)), none] [] σ) := by
    intro σ hR
    have e15 := zm150 (d := 61) (z := on) hR.1 ⟨b0, b1⟩ ho
    rw [ez_160]
    simp only [eo, m1, zbs, zBi]
    constructor
    · intro hbad
      by_cases q1 : 1 ≤ k ∧ k ≤ 5
      · rw [decide_eq_true q1, cond_true, if_neg (by omega), e15, decide_eq_false (by omega)]; rfl
      · rw [decide_eq_false q1]; rfl
    · intro q1 q2
      rw [decide_eq_true q1, cond_true]
      by_cases q : on = -1
      · rw [if_pos q]
      · rw [if_neg q, e15, decide_eq_true (by omega)]; rfl
  by_cases q1 : 1 ≤ k ∧ k ≤ 5
  case neg => exact zCq (-1) w (fun σ hR => ⟨σ, (hc σ hR).1 (Or.inl q1), zFr_r σ⟩) (fun σ hR => ⟨σ, (hm σ hR).1 (Or.inl q1), zFr_r σ, hR.1⟩)
  case pos =>
  by_cases q2 : on = -1 ∨ (0 ≤ on ∧ on < x.1 0)
  case neg => exact zCq (-1) w (fun σ hR => ⟨σ, (hc σ hR).1 (Or.inr (by omega)), zFr_r σ⟩) (fun σ hR => ⟨σ, (hm σ hR).1 (Or.inr (by omega)), zFr_r σ, hR.1⟩)
  case pos =>
  by_cases q3 : 1 ≤ l ∧ l ≤ 9
  case neg =>
    refine zCq (-1) w (fun σ hR => ?_) (fun σ hR => ?_)
    · rw [(hc σ hR).2 q1 q2, ez_84_40, r2, decide_eq_false q3]
      exact ⟨σ, rfl, zFr_r σ⟩
    · rw [(hm σ hR).2 q1 q2, ez_160_25, m2, decide_eq_false q3]
      exact ⟨σ, rfl, zFr_r σ, hR.1⟩
  case pos =>
  by_cases q4 : 1 ≤ h ∧ h ≤ 999
  case neg =>
    refine zCq (-1) w (fun σ hR => ?_) (fun σ hR => ?_)
    · rw [(hc σ hR).2 q1 q2, ez_84_40, r2, decide_eq_true q3]
      simp only [zbs, zBi, cond_true, r3, decide_eq_false q4, cond_false]
      exact ⟨σ, rfl, zFr_r σ⟩
    · rw [(hm σ hR).2 q1 q2, ez_160_25, m2, decide_eq_true q3]
      simp only [zbs, zBi, cond_true, m3, decide_eq_false q4, cond_false]
      exact ⟨σ, rfl, zFr_r σ, hR.1⟩
  case pos =>
  obtain ⟨n, hn⟩ := zint b0
  have e9' : (iI (x.1 0) = 9) = (x.1 0 = 9) := iI_eq (b := 9) (by omega) (by decide)
  by_cases q5 : n = 9
  · refine zCq (-2) w (fun σ hR => ?_) (fun σ hR => ?_)
    · rw [(hc σ hR).2 q1 q2, ez_84_40, r2, decide_eq_true q3]
      simp only [zbs, zBi, cond_true, r3, decide_eq_true q4, hR.1.1.1, iI_lt9 (show zrn (x.1 0) by omega)]
      rw [if_neg (by omega)]
      exact ⟨σ, rfl, zFr_r σ⟩
    · rw [(hm σ hR).2 q1 q2, ez_160_25, m2, decide_eq_true q3]
      simp only [zbs, zBi, cond_true, m3, decide_eq_true q4, hR.1 0 (by decide), e9']
      rw [if_pos (by omega)]
      exact ⟨σ, rfl, zFr_r σ, hR.1⟩
  · by_cases q6 : 0 ≤ on ∧ aBrk x.1 on.toNat = true
    · refine zCq (-4) w (fun σ hR => ?_) (fun σ hR => ?_)
      · rw [(hc σ hR).2 q1 q2, ez_84_40, r2, decide_eq_true q3]
        simp only [zbs, zBi, cond_true, r3, decide_eq_true q4, hR.1.1.1, iI_lt9 (show zrn (x.1 0) by omega), decide_eq_false (show ¬ on = -1 by omega), zc14 (d := 61) hR.1.1 hR.1.2.1 wb ho, q6.2, Bool.not_true, Bool.and_false]
        rw [if_pos (by omega)]
        exact ⟨σ, rfl, zFr_r σ⟩
      · obtain ⟨m, rfl⟩ := zint q6.1
        have w2 := wb.2.2 m (by omega)
        have hbk : aBrk x.1 m = true := q6.2
        rw [(hm σ hR).2 q1 q2, ez_160_25, m2, decide_eq_true q3]
        simp only [zbs, zBi, cond_true, m3, decide_eq_true q4, hR.1 0 (by decide), e9', iI_lt0 ho, zm157 (d := 60) hR.1 (show m < 9 by omega) (show 0 ≤ x.1 (11 + 5 * m) ∧ x.1 (11 + 5 * m) ≤ 1 by omega), hbk]
        rw [if_neg (by omega), if_neg (by omega)]
        exact ⟨σ, rfl, zFr_r σ, hR.1⟩
    · have hon : -1 ≤ on ∧ on < n := by omega
      have wT := wA_nw (k := k) (on := on) (l := l) (h := h) w.1 hn (by omega) q1 hon q3 q4
      have e : ∀ i, i ≠ 0 → (i < 7 ∨ 52 ≤ i) → aNw x.1 n k on l h i = x.1 i := fun i a b => aNw_n (by omega) a
      obtain ⟨a1, a2, a3, a4, a5⟩ := aNw_at (S := x.1) (n := n) (k := k) (on := on) (l := l) (h := h)
      have wk : wK (aNw x.1 n k on l h) := fun b hb h1 h2 => by
        rw [aNw_0] at hb
        by_cases qb : b = n
        · subst qb
          exfalso
          rw [a2] at h1 h2
          obtain ⟨m, rfl⟩ := zint (show 0 ≤ on by omega)
          rw [show ((m : Int) + 1 - 1).toNat = m by omega, aNw_n (by omega) (by omega)] at h2
          exact q6 ⟨by omega, decide_eq_true h2⟩
        · have w2 := w.1.1.2.2 b (by omega)
          rw [aNw_n (i := 8 + 5 * b) (by omega) (by omega)] at h1 h2
          rw [aNw_n (by omega) (by omega)] at h2
          rw [aNw_n (by omega) (by omega)]
          exact w.2.2.2.2.2.2.1 b (by omega) h1 h2
      refine zCs (aNw x.1 n k on l h) (iI n) w wT wk (fun σ hR => ?_) (fun σ hR => ?_)
      · obtain ⟨v, g1, g2⟩ := zc12 (d := 61) (k := k) (l := l) (h := h) hR.1.1 wb hn (by omega) hon
        obtain ⟨h1, h2, h3, h4, h5, h6, h7⟩ := hR.1
        have hans : zrun (zev 63) zT_84 40 [some (.inr (.inr (0, 30))), some (.inl (iI k)), some (.inl (iI on)), some (.inl (iI l)), some (.inl (iI h)), some (.inl (zB (decide (on = -1))))] [] σ = (Option.bind (zev 63 12 [.inr (.inr (0, 1)), .inl (iI k), .inl (iI (cE on)), .inl (iI l), .inl (iI h)] σ) fun x => some (x.1, 0, x.2.2)) := by
          rw [ez_84_40, r2, decide_eq_true q3]
          simp only [zbs, zBi, cond_true, r3, decide_eq_true q4, h1.1, iI_lt9 (show zrn (x.1 0) by omega)]
          rw [if_pos (by omega)]
          by_cases q : on = -1
          · rw [decide_eq_true q, q]
            rfl
          · have hbk : aBrk x.1 on.toNat = false := by
              cases hx : aBrk x.1 on.toNat
              · rfl
              · exact absurd ⟨by omega, hx⟩ q6
            rw [decide_eq_false q, cond_false, zc14 (d := 61) h1 h2 wb ho, hbk, decide_eq_true (by omega)]
            simp only [zbs, zBi, Bool.not_false, Bool.true_and, cond_true, cond_false]
            rw [show cE on = on from if_neg (by omega)]
        rw [(hc σ hR).2 q1 q2, hans, g1]
        have f : ∀ k', k' = 0 ∨ 7 ≤ k' → (zwI (zwI (zwI (zwI (zwI (zwI σ 0 2 n (iI k)) 0 3 n (iI (cE on))) 0 4 n (iI l)) 0 5 n (iI h)) 0 6 n v) 0 1 0 (iI ((n + 1 : Nat) : Int))).1 0 k' = σ.1 0 k' := fun k' hk' => by rw [zfn (by omega), zfn (by omega), zfn (by omega), zfn (by omega), zfn (by omega), zfn (by omega)]
        have f1 : ∀ i, i ≠ 0 → (zwI (zwI (zwI (zwI (zwI (zwI σ 0 2 n (iI k)) 0 3 n (iI (cE on))) 0 4 n (iI l)) 0 5 n (iI h)) 0 6 n v) 0 1 0 (iI ((n + 1 : Nat) : Int))).1 0 1 i = σ.1 0 1 i := fun i hi => by rw [zfe (by omega), zfe (by omega), zfe (by omega), zfe (by omega), zfe (by omega), zfe (by omega)]
        refine ⟨_, rfl, zFr_tt (zFr_tt (zFr_tt (zFr_tt (zFr_tt (zFr_w (by omega)) (zFr_w (by omega))) (zFr_w (by omega))) (zFr_w (by omega))) (zFr_w (by omega))) (zFr_w (by omega)), ⟨by rw [zfs, aNw_0], fun b hb => ?_⟩, fun b hb => ?_, ⟨?_, ?_⟩, ?_, ?_, ?_, ?_⟩
        · rw [aNw_0] at hb
          by_cases qb : b = n
          · subst qb
            have hpar : aPar (aNw x.1 b k on l h) b = on := by unfold aPar; rw [a2]; omega
            rw [a1, a3, a4, hpar, zfe (by omega), zfe (by omega), zfe (by omega), zfe (by omega), zfe (by omega), zfs, zfe (by omega), zfe (by omega), zfe (by omega), zfe (by omega), zfs, zfe (by omega), zfe (by omega), zfe (by omega), zfs, zfe (by omega), zfe (by omega), zfs]
            refine ⟨rfl, rfl, rfl, rfl, fun u hu => ?_⟩
            rw [zfe (by omega), zfs, g2 u hu, aAb_u wT.1 (by rw [aNw_0]; omega), hpar]
            congr 1
            by_cases qo : on < 0
            · rw [aAbI_n qo, aAbI_n qo]
            · obtain ⟨m, rfl⟩ := zint (show 0 ≤ on by omega)
              rw [aAbI_p, aAbI_p, aNw_ab wb hn (by omega)]
          · have hb' := h1.2 b (by omega)
            have hpar : aPar (aNw x.1 n k on l h) b = aPar x.1 b := by unfold aPar; rw [aNw_n (by omega) (by omega)]
            have hne : ∀ {g' k' : Nat}, ¬ (g' = 0 ∧ k' = 1 ∧ b = 0) → (zwI (zwI (zwI (zwI (zwI (zwI σ 0 2 n (iI k)) 0 3 n (iI (cE on))) 0 4 n (iI l)) 0 5 n (iI h)) 0 6 n v) 0 1 0 (iI ((n + 1 : Nat) : Int))).1 g' k' b = σ.1 g' k' b := fun hq => by rw [zfe hq, zfe (by omega), zfe (by omega), zfe (by omega), zfe (by omega), zfe (by omega)]
            rw [aNw_n (by omega) (by omega), aNw_n (by omega) (by omega), aNw_n (by omega) (by omega), hpar, hne (by omega), hne (by omega), hne (by omega), hne (by omega), hne (by omega)]
            refine ⟨hb'.1, hb'.2.1, hb'.2.2.1, hb'.2.2.2.1, fun u hu => ?_⟩
            rw [aNw_ab wb hn (by omega)]
            exact hb'.2.2.2.2 u hu
        · rw [f1 6 (by decide), h2 b hb]
          unfold aBrk
          rw [aNw_0]
          by_cases qb : b = n
          · subst qb
            rw [a5, decide_eq_false (show ¬ b < (x.1 0).toNat by omega), decide_eq_false (show ¬ (0 : Int) = 1 by omega), Bool.and_false, Bool.false_and]
          · rw [aNw_n (by omega) (by omega), zdec (show b < (x.1 0).toNat ↔ b < ((n + 1 : Nat) : Int).toNat by omega)]
        · rw [f1 7 (by decide), e 4 (by omega) (by omega)]; exact h3.1
        · rw [f1 8 (by decide), e 5 (by omega) (by omega)]; exact h3.2
        · exact cP_f (cP_c h4 (e 2 (by omega) (by omega)) (fun i _ _ => e i (by omega) (by omega)) wp) fun k _ _ => f k (by omega)
        · exact cR_f (cR_c h5 (e 3 (by omega) (by omega)) (fun i _ _ => e i (by omega) (by omega)) wr) (by rw [f 19 (by omega)]) fun k _ _ => f k (by omega)
        · exact cU_f (cU_c h6 (e 1 (by omega) (by omega)) fun i _ => e i (by omega) (by omega)) fun k _ _ => f k (by omega)
        · unfold cZ at h7 ⊢
          rw [f 0 (by omega), e 6 (by omega) (by omega)]; exact h7
      · have i5 : ∀ (w' : Nat) {τ : zM}, zev 63 155 [.inl (iI n), .inl (iI w')] τ = some (iI ((7 + 5 * n + w' : Nat) : Int), 0, τ) := fun w' {τ} => zm155 (d := 62) (b := n) (w := w')
        have i0 : ∀ {τ : zM}, zev 63 155 [.inl (iI n), .inl 0] τ = some (iI ((7 + 5 * n : Nat) : Int), 0, τ) := i5 0
        have i1 : ∀ {τ : zM}, zev 63 155 [.inl (iI n), .inl 1] τ = some (iI ((8 + 5 * n : Nat) : Int), 0, τ) := fun {τ} => by
          have := i5 1 (τ := τ); rw [show 7 + 5 * n + 1 = 8 + 5 * n by omega] at this; exact this
        have i2 : ∀ {τ : zM}, zev 63 155 [.inl (iI n), .inl 2] τ = some (iI ((9 + 5 * n : Nat) : Int), 0, τ) := fun {τ} => by
          have := i5 2 (τ := τ); rw [show 7 + 5 * n + 2 = 9 + 5 * n by omega] at this; exact this
        have i3 : ∀ {τ : zM}, zev 63 155 [.inl (iI n), .inl 3] τ = some (iI ((10 + 5 * n : Nat) : Int), 0, τ) := fun {τ} => by
          have := i5 3 (τ := τ); rw [show 7 + 5 * n + 3 = 10 + 5 * n by omega] at this; exact this
        have i4 : ∀ {τ : zM}, zev 63 155 [.inl (iI n), .inl 4] τ = some (iI ((11 + 5 * n : Nat) : Int), 0, τ) := fun {τ} => by
          have := i5 4 (τ := τ); rw [show 7 + 5 * n + 4 = 11 + 5 * n by omega] at this; exact this
        have h0 : σ.1 0 61 0 = iI n := by rw [hR.1 0 (by decide), hn]
        have h5 : ∀ v1 v2 v3 v4 v5 : Int32, (zwI (zwI (zwI (zwI (zwI σ 0 61 (7 + 5 * n) v1) 0 61 (8 + 5 * n) v2) 0 61 (9 + 5 * n) v3) 0 61 (10 + 5 * n) v4) 0 61 (11 + 5 * n) v5).1 0 61 0 = iI n := fun v1 v2 v3 v4 v5 => by rw [zfe (by omega), zfe (by omega), zfe (by omega), zfe (by omega), zfe (by omega), h0]
        have t73 : ∀ d5 : Option zV, zrun (zev 63) zT_160 73 [some (.inr (.inr (0, 60))), some (.inl (iI k)), some (.inl (iI on)), some (.inl (iI l)), some (.inl (iI h)), d5] [] σ = some (iI n, 0, zwI (zwI (zwI (zwI (zwI (zwI σ 0 61 (7 + 5 * n) (iI k)) 0 61 (8 + 5 * n) (iI (on + 1))) 0 61 (9 + 5 * n) (iI l)) 0 61 (10 + 5 * n) (iI h)) 0 61 (11 + 5 * n) 0) 0 61 0 (iI ((n + 1 : Nat) : Int))) := by
          intro d5
          rw [ez_160_73]
          simp only [h0, i0, i1, i2, i3, i4, zbs, zgd_t (iI_ink (z := ((7 + 5 * n : Nat) : Int)) (k := 7 + 5 * n) rfl (show 7 + 5 * n < 320 by omega) (by decide)), iI_Nn (show 7 + 5 * n ≤ 2147483647 by omega), zgd_t (iI_ink (z := ((8 + 5 * n : Nat) : Int)) (k := 8 + 5 * n) rfl (show 8 + 5 * n < 320 by omega) (by decide)), iI_Nn (show 8 + 5 * n ≤ 2147483647 by omega), zgd_t (iI_ink (z := ((9 + 5 * n : Nat) : Int)) (k := 9 + 5 * n) rfl (show 9 + 5 * n < 320 by omega) (by decide)), iI_Nn (show 9 + 5 * n ≤ 2147483647 by omega), zgd_t (iI_ink (z := ((10 + 5 * n : Nat) : Int)) (k := 10 + 5 * n) rfl (show 10 + 5 * n < 320 by omega) (by decide)), iI_Nn (show 10 + 5 * n ≤ 2147483647 by omega), zgd_t (iI_ink (z := ((11 + 5 * n : Nat) : Int)) (k := 11 + 5 * n) rfl (show 11 + 5 * n < 320 by omega) (by decide)), iI_Nn (show 11 + 5 * n ≤ 2147483647 by omega), h5, hki1, iI_a1]
          rfl
        have hS := mS_up (i := 0) (v := ((n + 1 : Nat) : Int)) (mS_up (i := 11 + 5 * n) (v := 0) (mS_up (i := 10 + 5 * n) (v := h) (mS_up (i := 9 + 5 * n) (v := l) (mS_up (i := 8 + 5 * n) (v := on + 1) (mS_up (i := 7 + 5 * n) (v := k) hR.1)))))
        rw [(hm σ hR).2 q1 q2, ez_160_25, m2, decide_eq_true q3]
        simp only [zbs, zBi, cond_true, m3, decide_eq_true q4, h0, iI_eq (b := 9) (show zrn (n : Int) by omega) (show zrn 9 by decide), iI_lt0 ho]
        refine ⟨_, ?_, zFr_tt (zFr_tt (zFr_tt (zFr_tt (zFr_tt (zFr_w (by omega)) (zFr_w (by omega))) (zFr_w (by omega))) (zFr_w (by omega))) (zFr_w (by omega))) (zFr_w (by omega)), hS⟩
        have e9 : (iI (n : Int) = 9) = ((n : Int) = 9) := iI_eq (b := 9) (by omega) (by decide)
        simp only [e9]
        rw [if_neg (by omega)]
        by_cases qo : on < 0
        · rw [if_pos qo, t73]; rfl
        · obtain ⟨m, rfl⟩ := zint (show 0 ≤ on by omega)
          have w2 := wb.2.2 m (by omega)
          have hbk : aBrk x.1 m = false := by
            cases hx : aBrk x.1 m
            · rfl
            · exact absurd ⟨by omega, hx⟩ q6
          rw [if_neg qo, zm157 (d := 60) hR.1 (show m < 9 by omega) (show 0 ≤ x.1 (11 + 5 * m) ∧ x.1 (11 + 5 * m) ≤ 1 by omega), hbk]
          simp only [zbs, zBi, cond_false]
          rw [t73]; rfl
theorem cKe_f {x : zXx} {σ τ : zM} (h : cKe x σ) (e : τ.1 0 30 3 = σ.1 0 30 3) (e2 : ∀ k, k ≤ 22 → τ.1 2 k = σ.1 2 k) : cKe x τ :=
  ⟨e.trans h.1, fun q => cA_c (h.2 q) (fun k a _ _ _ => e2 k (by omega)) (by rw [e2 19 (by decide)])⟩
theorem cTp_f {t : zXt} {σ τ : zM} (h : cTp t σ) (e : τ.1 0 31 0 = σ.1 0 31 0) (e2 : τ.1 0 32 = σ.1 0 32) : cTp t τ := ⟨e.trans h.1, fun i hi => by rw [e2]; exact h.2 i hi⟩
theorem cRo_f {r : zXr} {σ τ : zM} (h : cRo r σ) (e : τ.1 0 38 0 = σ.1 0 38 0) (e2 : ∀ k, τ.1 k 40 = σ.1 k 40) : cRo r τ := ⟨e.trans h.1, fun k w hk hw => by rw [e2]; exact h.2 k w hk hw⟩
theorem cHo_f {r : zXh} {σ τ : zM} (h : cHo r σ) (e : ∀ k, 42 ≤ k → k ≤ 48 → τ.1 0 k = σ.1 0 k) (e2 : τ.2 = σ.2) : cHo r τ := fun j hj => by
  rw [e 42 (by decide) (by decide), e 43 (by decide) (by decide), e 46 (by decide) (by decide), e 47 (by decide) (by decide), e 48 (by decide) (by decide), e2]
  exact h j hj
theorem cAc_f {a : zXt} {σ τ : zM} (h : cAc a σ) (e : τ.1 0 49 0 = σ.1 0 49 0) (e2 : τ.1 0 50 = σ.1 0 50) : cAc a τ := ⟨e.trans h.1, fun i hi => by rw [e2]; exact h.2 i hi⟩
theorem mKe_f {x : zXx} {σ τ : zM} (h : mKe x σ) (e : τ.1 0 60 3 = σ.1 0 60 3) (e2 : τ.1 0 62 = σ.1 0 62) : mKe x τ := ⟨e.trans h.1, fun q => mS_f (h.2 q) e2⟩
theorem mTp_f {t : zXt} {σ τ : zM} (h : mTp t σ) (e : τ.1 0 60 18 = σ.1 0 60 18) (e2 : τ.1 0 72 = σ.1 0 72) : mTp t τ := ⟨e.trans h.1, fun i hi => by rw [e2]; exact h.2 i hi⟩
theorem mRo_f {r : zXr} {σ τ : zM} (h : mRo r σ) (e : τ.1 0 60 16 = σ.1 0 60 16) (e2 : τ.1 0 71 = σ.1 0 71) : mRo r τ := ⟨e.trans h.1, fun k w hk hw => by rw [e2]; exact h.2 k w hk hw⟩
theorem mHo_f {r : zXh} {σ τ : zM} (h : mHo r σ) (e : ∀ k, 73 ≤ k → k ≤ 78 → τ.1 0 k = σ.1 0 k) : mHo r τ := fun j hj => by
  rw [e 73 (by decide) (by decide), e 74 (by decide) (by decide), e 75 (by decide) (by decide), e 76 (by decide) (by decide), e 77 (by decide) (by decide), e 78 (by decide) (by decide)]
  exact h j hj
theorem mAc_f {a : zXt} {σ τ : zM} (h : mAc a σ) (e : τ.1 0 60 32 = σ.1 0 60 32) (e2 : τ.1 0 79 = σ.1 0 79) : mAc a τ := ⟨e.trans h.1, fun i hi => by rw [e2]; exact h.2 i hi⟩
def xsr (x : zXx) (r : zXr) : zXx := (x.1, x.2.1, x.2.2.1, x.2.2.2.1, r, x.2.2.2.2.2)
abbrev WRc : Nat → Nat → Nat → Prop := fun g k i => WC g k i ∨ (g = 0 ∧ k = 38) ∨ k = 40
theorem RC_r {x : zXx} {r : zXr} {σ τ : zM} (h : RC x σ) (f : zFr WRc σ τ) (hr : cRo r τ) : RC (xsr x r) τ := by
  obtain ⟨h1, h2, h3, h4, h5, h6⟩ := h
  have e : ∀ k, (k ≤ 21 ∧ k ≠ 13 ∧ k ≠ 14 ∧ k ≠ 19) ∨ (30 ≤ k ∧ k ≤ 32) ∨ (41 ≤ k ∧ k ≤ 48) ∨ k = 50 → τ.1 0 k = σ.1 0 k := fun k hk => zFr_f f (fun i => by omega)
  exact ⟨cA_c h1 (fun k a b c d => e k (by omega)) (f.1 _ _ _ (by omega)), cKe_f (x := x) h2 (by rw [e 30 (by omega)]) (fun k hk => zFr_f f (fun i => by omega)), cTp_f h3 (by rw [e 31 (by omega)]) (e 32 (by omega)), hr, cHo_f h5 (fun k a b => e k (by omega)) f.2, cAc_f h6 (f.1 _ _ _ (by omega)) (e 50 (by omega))⟩
abbrev WRm : Nat → Nat → Nat → Prop := fun g k i => g = 0 ∧ (k = 61 ∨ (63 ≤ k ∧ k ≤ 71) ∨ (k = 60 ∧ i ≠ 3 ∧ i ≠ 18 ∧ i ≠ 32))
theorem RM_r {x : zXx} {r : zXr} {σ τ : zM} (h : RM x σ) (f : zFr WRm σ τ) (hS : mS 61 x.1 τ) (hr : mRo r τ) : RM (xsr x r) τ := by
  obtain ⟨h1, h2, h3, h4, h5, h6⟩ := h
  have e : ∀ k, k = 62 ∨ 72 ≤ k → τ.1 0 k = σ.1 0 k := fun k hk => zFr_f f (fun i => by omega)
  exact ⟨hS, mKe_f (x := x) h2 (f.1 _ _ _ (by omega)) (e 62 (by omega)), mTp_f h3 (f.1 _ _ _ (by omega)) (e 72 (by omega)), hr, mHo_f h5 (fun k a b => e k (by omega)), mAc_f h6 (f.1 _ _ _ (by omega)) (e 79 (by omega))⟩
def aPk (S : zS) (z : Int) : Nat → Int
  | 0 => z
  | k + 1 => aPar S (aPk S z k).toNat
def aPl (S : zS) : Nat → Int → Nat
  | 0, _ => 0
  | n + 1, z => if z < 0 then 0 else aPl S n (aPar S z.toNat) + 1
theorem aPl_le {S : zS} : ∀ (n : Nat) (z : Int), aPl S n z ≤ n
  | 0, _ => Nat.le_refl _
  | n + 1, z => by
    show (if z < 0 then 0 else aPl S n (aPar S z.toNat) + 1) ≤ n + 1
    have := aPl_le (S := S) n (aPar S z.toNat)
    split <;> omega
def aRw (S : zS) (z : Int) : Nat → Nat → Int := fun k w => if w = 0 then aPk S z k else if w = 1 then aBear S (aPk S z k).toNat else aHold S (aPk S z k).toNat
theorem aPk_r {S : zS} (w : wB S) {b : Nat} (hb : b < (S 0).toNat) : ∀ (k : Nat), k < aPl S 9 b → 0 ≤ aPk S b k ∧ aPk S b k < S 0 := by
  have key : ∀ (n k : Nat), k + n = 9 → (k + aPl S n (aPk S b k) = aPl S 9 b) → (∀ j, j < k → 0 ≤ aPk S b j ∧ aPk S b j < S 0) → -1 ≤ aPk S b k ∧ aPk S b k < S 0 → ∀ j, j < aPl S 9 b → 0 ≤ aPk S b j ∧ aPk S b j < S 0 := by
    intro n
    induction n with
    | zero =>
      intro k hk hl h hz j hj
      have : aPl S 0 (aPk S b k) = 0 := rfl
      exact h j (by omega)
    | succ n ih =>
      intro k hk hl h hz j hj
      by_cases q : aPk S b k < 0
      · have : aPl S (n + 1) (aPk S b k) = 0 := if_pos q
        exact h j (by omega)
      · have e : aPl S (n + 1) (aPk S b k) = aPl S n (aPk S b (k + 1)) + 1 := if_neg q
        obtain ⟨c, hc⟩ := zint (show 0 ≤ aPk S b k by omega)
        have w2 := w.2.2 c (by omega)
        have e2 : aPk S b (k + 1) = aPar S c := by show aPar S (aPk S b k).toNat = _; rw [hc, Int.toNat_natCast]
        have hp : aPar S c < c ∧ -1 ≤ aPar S c := by unfold aPar; omega
        refine ih (k + 1) (by omega) (by omega) (fun j hj => ?_) ⟨by omega, by omega⟩ j hj
        by_cases q2 : j = k
        · subst q2; omega
        · exact h j (by omega)
  exact key 9 0 rfl (by rw [show aPk S b 0 = (b : Int) from rfl]; omega) (fun j hj => absurd hj (Nat.not_lt_zero _)) ⟨by show -1 ≤ (b : Int); omega, by show (b : Int) < S 0; omega⟩
theorem zc46_10 {b : Nat} {S : zS} (wa : wA S) : ∀ (n k : Nat) (σ : zM) (d2 : Option zV), k + n = 9 → aPk S b k < n → -1 ≤ aPk S b k ∧ aPk S b k < S 0 → k + aPl S n (aPk S b k) = aPl S 9 b → cA 0 S σ → σ.1 0 38 0 = iI k → (∀ j w, j < k → w < 3 → σ.1 j 40 w = iI (aRw S b j w)) → ∃ τ, zrun (zev 62) zT_46 10 [some (.inr (.inr (0, 38))), some (.inr (.inr (0, 0))), d2, some (.inl (iI (cE (aPk S b k)))), some (.inl (iI k))] [] σ = some (0, 0, τ) ∧ zFr WRc σ τ ∧ cRo (aPl S 9 b, aRw S b) τ := by
  have b0 := wa.1.1
  have b1 := wa.1.2.1
  intro n
  induction n with
  | zero =>
    intro k σ d2 hk hz hz2 hl hA hc hr
    have e0 : aPl S 0 (aPk S b k) = 0 := rfl
    rw [ez_46_10, if_neg (by rw [iI_lt9 (by omega)]; omega)]
    exact ⟨σ, rfl, zFr_r σ, by show σ.1 0 38 0 = iI ((aPl S 9 b : Nat) : Int); rw [hc]; congr 2 <;> omega, fun j w hj hw => hr j w (by omega) hw⟩
  | succ n ih =>
    intro k σ d2 hk hz hz2 hl hA hc hr
    have hcz : zrn (cE (aPk S b k)) := by unfold cE; split <;> omega
    rw [ez_46_10, if_pos (by rw [iI_lt9 (by omega)]; omega), zc13 (d := 61) hA.1.1 ⟨b0, b1⟩ hcz]
    simp only [zbs, zBi]
    by_cases q : aPk S b k < 0
    · have e0 : aPl S (n + 1) (aPk S b k) = 0 := if_pos q
      rw [decide_eq_false (by rw [show cE (aPk S b k) = -9 from if_pos q]; omega), cond_false]
      exact ⟨σ, rfl, zFr_r σ, by show σ.1 0 38 0 = iI ((aPl S 9 b : Nat) : Int); rw [hc]; congr 2 <;> omega, fun j w hj hw => hr j w (by omega) hw⟩
    · have e0 : aPl S (n + 1) (aPk S b k) = aPl S n (aPk S b (k + 1)) + 1 := if_neg q
      rw [show cE (aPk S b k) = aPk S b k from if_neg q]
      obtain ⟨c, hcc⟩ := zint (show 0 ≤ aPk S b k by omega)
      have w2 := wa.1.2.2 c (by omega)
      have e2 : aPk S b (k + 1) = aPar S c := by show aPar S (aPk S b k).toNat = _; rw [hcc, Int.toNat_natCast]
      have hp : aPar S c < c ∧ -1 ≤ aPar S c := by unfold aPar; omega
      rw [hcc, decide_eq_true (by omega), cond_true]
      have hA1 : cA 0 S (zwI σ k 40 0 (iI c)) := cA_c hA (fun _ _ _ _ _ => zfn (by omega)) (zfe (by omega))
      have hA2 : cA 0 S (zwI (zwI σ k 40 0 (iI c)) k 40 1 (iI (aBear S c))) := cA_c hA1 (fun _ _ _ _ _ => zfn (by omega)) (zfe (by omega))
      obtain ⟨τ, g1, g2⟩ := zc16 (d := 58) (b := c) hA2.1 hA2.2.2.1 hA2.2.2.2.2.2.1 wa.1 wa.2.1 wa.2.2.2.2.1 (by omega)
      have hA3 : cA 0 S τ := cA_c hA2 (fun k a b c d => zFr_f g2 (fun i => by omega)) (g2.1 _ _ _ (by omega))
      have hA4 : cA 0 S (zwI (zwI τ k 40 2 (iI (aHold S c))) 0 38 0 (iI ((k + 1 : Nat) : Int))) := cA_c hA3 (fun _ _ _ _ _ => by rw [zfn (by omega), zfn (by omega)]) (by rw [zfe (by omega), zfe (by omega)])
      simp only [zgd_t (iI_ink (z := k) (k := k) rfl (show k < 9 by omega) (by decide)), iI_Nn (show k ≤ 2147483647 by omega), zc26 (d := 59) hA1.1 hA1.2.2.1 hA1.2.2.2.1 wa.1 wa.2.1 wa.2.2.1 (show c < (S 0).toNat by omega), zbs, g1, zgd_t (iI_ink (z := c) (k := c) rfl (show c < 9 by omega) (by decide)), iI_Nn (show c ≤ 2147483647 by omega), hki1, (hA4.1.2 c (by omega)).2.1]
      have f : zFr WRc σ (zwI (zwI τ k 40 2 (iI (aHold S c))) 0 38 0 (iI ((k + 1 : Nat) : Int))) := zFr_tt (zFr_tt (zFr_tt (zFr_tt (zFr_w (by omega)) (zFr_w (by omega))) (zFr_i g2 fun _ _ _ q => by omega)) (zFr_w (by omega))) (zFr_w (by omega))
      have ih' := ih (k + 1) _ none (by omega) (by omega) ⟨by omega, by omega⟩ (by omega) hA4 zfs (fun j w hj hw => by
        rw [zfe (by omega)]
        by_cases qj : j = k
        · subst qj
          have hR : aRw S b j w = if w = 0 then (c : Int) else if w = 1 then aBear S c else aHold S c := by unfold aRw; rw [hcc, Int.toNat_natCast]
          rw [hR]
          rcases (by omega : w = 0 ∨ w = 1 ∨ w = 2) with rfl | rfl | rfl
          · rw [zfe (by omega), g2.1 _ _ _ (by omega), zfe (by omega), zfs]; rfl
          · rw [zfe (by omega), g2.1 _ _ _ (by omega), zfs]; rfl
          · rw [zfs]; rfl
        · rw [zfe (by omega), g2.1 _ _ _ (by omega), zfe (by omega), zfe (by omega)]
          exact hr j w (by omega) hw)
      rw [e2] at ih'
      obtain ⟨τ2, k1, k2, k3⟩ := ih'
      exact ⟨τ2, k1, zFr_tt f k2, k3⟩
theorem zm226_21 {b : Nat} {S : zS} (wa : wA S) : ∀ (n k : Nat) (σ : zM) (d1 : Option zV), k + n = 9 → aPk S b k < n → -1 ≤ aPk S b k ∧ aPk S b k < S 0 → k + aPl S n (aPk S b k) = aPl S 9 b → mS 61 S σ → mR 65 S (aHold S) σ → mR 66 S (aBear S) σ → σ.1 0 60 16 = iI k → (∀ j w, j < k → w < 3 → σ.1 0 71 (3 * j + w) = iI (aRw S b j w)) → ∃ τ, zrun (zev 63) zT_226 21 [some (.inr (.inr (0, 60))), d1, some (.inl (iI (aPk S b k)))] [] σ = some (iI (aPl S 9 b), 0, τ) ∧ zFr WRm σ τ ∧ mS 61 S τ ∧ mRo (aPl S 9 b, aRw S b) τ := by
  have b0 := wa.1.1
  have b1 := wa.1.2.1
  intro n
  induction n with
  | zero =>
    intro k σ d1 hk hz hz2 hl hS hh he hc hr
    have e0 : aPl S 0 (aPk S b k) = 0 := rfl
    have ek : k = aPl S 9 b := by omega
    rw [ez_226_21, if_pos (by rw [iI_lt0 (by omega)]; omega), hc, ← ek]
    exact ⟨σ, rfl, zFr_r σ, hS, hc, hr⟩
  | succ n ih =>
    intro k σ d1 hk hz hz2 hl hS hh he hc hr
    by_cases q : aPk S b k < 0
    · have e0 : aPl S (n + 1) (aPk S b k) = 0 := if_pos q
      have ek : k = aPl S 9 b := by omega
      rw [ez_226_21, if_pos (by rw [iI_lt0 (by omega)]; omega), hc, ← ek]
      exact ⟨σ, rfl, zFr_r σ, hS, hc, hr⟩
    · have e0 : aPl S (n + 1) (aPk S b k) = aPl S n (aPk S b (k + 1)) + 1 := if_neg q
      obtain ⟨c, hcc⟩ := zint (show 0 ≤ aPk S b k by omega)
      have w2 := wa.1.2.2 c (by omega)
      have e2 : aPk S b (k + 1) = aPar S c := by show aPar S (aPk S b k).toNat = _; rw [hcc, Int.toNat_natCast]
      have hp : aPar S c < c ∧ -1 ≤ aPar S c := by unfold aPar; omega
      have i0 : (3 : Int32) * iI k = iI ((3 * k : Nat) : Int) := by
        show iI 3 * iI k = _
        rw [iI_mul]; congr 1
      have i1 : iI ((3 * k : Nat) : Int) + 1 = iI ((3 * k + 1 : Nat) : Int) := by rw [iI_a1]; congr 1
      have i2 : iI ((3 * k : Nat) : Int) + 2 = iI ((3 * k + 2 : Nat) : Int) := by
        show iI ((3 * k : Nat) : Int) + iI 2 = _
        rw [iI_add]; congr 1
      have r1 : ∀ v1 : Int32, (zwI σ 0 71 (3 * k) v1).1 0 60 16 = iI k := fun v1 => by rw [zfe (by omega), hc]
      have r2 : ∀ v1 v2 : Int32, (zwI (zwI σ 0 71 (3 * k) v1) 0 71 (3 * k + 1) v2).1 0 60 16 = iI k := fun v1 v2 => by rw [zfe (by omega), zfe (by omega), hc]
      have r3 : ∀ v1 v2 v3 : Int32, (zwI (zwI (zwI σ 0 71 (3 * k) v1) 0 71 (3 * k + 1) v2) 0 71 (3 * k + 2) v3).1 0 60 16 = iI k := fun v1 v2 v3 => by rw [zfe (by omega), zfe (by omega), zfe (by omega), hc]
      have s1 : ∀ v1 : Int32, (zwI σ 0 71 (3 * k) v1).1 0 66 c = iI (aBear S c) := fun v1 => by rw [zfe (by omega)]; exact he c (by omega)
      have s2 : ∀ v1 v2 : Int32, (zwI (zwI σ 0 71 (3 * k) v1) 0 71 (3 * k + 1) v2).1 0 65 c = iI (aHold S c) := fun v1 v2 => by rw [zfe (by omega), zfe (by omega)]; exact hh c (by omega)
      rw [ez_226_21, hcc, if_neg (by rw [iI_lt0 (by omega)]; omega)]
      simp only [hc, i0, zgd_t (iI_ink (z := ((3 * k : Nat) : Int)) (k := 3 * k) rfl (show 3 * k < 27 by omega) (by decide)), iI_Nn (show 3 * k ≤ 2147483647 by omega), zgd_t (iI_ink (z := c) (k := c) rfl (show c < 9 by omega) (by decide)), iI_Nn (show c ≤ 2147483647 by omega), r1, i1, zgd_t (iI_ink (z := ((3 * k + 1 : Nat) : Int)) (k := 3 * k + 1) rfl (show 3 * k + 1 < 27 by omega) (by decide)), iI_Nn (show 3 * k + 1 ≤ 2147483647 by omega), s1, r2, i2, zgd_t (iI_ink (z := ((3 * k + 2 : Nat) : Int)) (k := 3 * k + 2) rfl (show 3 * k + 2 < 27 by omega) (by decide)), iI_Nn (show 3 * k + 2 ≤ 2147483647 by omega), s2, r3, hki1]
      generalize hτ : zwI (zwI (zwI (zwI σ 0 71 (3 * k) (iI c)) 0 71 (3 * k + 1) (iI (aBear S c))) 0 71 (3 * k + 2) (iI (aHold S c))) 0 60 16 (iI ((k + 1 : Nat) : Int)) = τ
      have f : zFr WRm σ τ := by
        subst hτ
        exact zFr_tt (zFr_tt (zFr_tt (zFr_w (by omega)) (zFr_w (by omega))) (zFr_w (by omega))) (zFr_w (by omega))
      have e6 : ∀ k', k' = 61 ∨ k' = 65 ∨ k' = 66 → τ.1 0 k' = σ.1 0 k' := fun k' hk' => by subst hτ; rw [zfn (by omega), zfn (by omega), zfn (by omega), zfn (by omega)]
      have hS1 : mS 61 S τ := mS_f hS (e6 61 (by omega))
      rw [zm158 (d := 60) hS1 (show c < 9 by omega)]
      simp only [zbs]
      have ih' := ih (k + 1) τ none (by omega) (by omega) ⟨by omega, by omega⟩ (by omega) hS1 (mR_f hh (e6 65 (by omega))) (mR_f he (e6 66 (by omega))) (by subst hτ; exact zfs) (fun j w hj hw => by
        subst hτ
        by_cases qj : j = k
        · subst qj
          have hR : aRw S b j w = if w = 0 then (c : Int) else if w = 1 then aBear S c else aHold S c := by unfold aRw; rw [hcc, Int.toNat_natCast]
          rw [hR]
          rcases (by omega : w = 0 ∨ w = 1 ∨ w = 2) with rfl | rfl | rfl
          · rw [zfe (by omega), zfe (by omega), zfe (by omega), Nat.add_zero, zfs]; rfl
          · rw [zfe (by omega), zfe (by omega), zfs]; rfl
          · rw [zfe (by omega), zfs]; rfl
        · rw [zfe (by omega), zfe (by omega), zfe (by omega), zfe (by omega)]
          exact hr j w (by omega) hw)
      rw [e2] at ih'
      obtain ⟨τ2, k1, k2, k3, k4⟩ := ih'
      exact ⟨τ2, k1, zFr_tt f k2, k3, k4⟩
theorem zx_124 {x : zXx} (w : WX x) (z : Int) (hz : zrn z) : zCall 124 226 [.inl (iI z)] x := by
  have b0 := w.1.1.1
  have b1 := w.1.1.2.1
  by_cases q : 0 ≤ z ∧ z < x.1 0
  case neg =>
    refine zCq (-1) w (fun σ h => ?_) (fun σ h => ?_)
    · rw [ez_124]
      simp only [zc13 h.1.1.1 ⟨b0, b1⟩ hz, zbs, zBi, decide_eq_false q, cond_false]
      exact ⟨σ, rfl, zFr_r σ⟩
    · rw [ez_226]
      simp only [zm150 (d := 61) h.1 ⟨b0, b1⟩ hz, zbs, zBi, decide_eq_false q, cond_false]
      exact ⟨σ, rfl, zFr_r σ, h.1⟩
  case pos =>
    obtain ⟨b, rfl⟩ := zint q.1
    have hb : b < (x.1 0).toNat := by omega
    have hle := aPl_le (S := x.1) 9 b
    have wr : wO (aPl x.1 9 b, aRw x.1 b) := ⟨hle, fun k w' hk hw' => by
      have := aPk_r w.1.1 hb k hk
      obtain ⟨c, hc⟩ := zint this.1
      have h1 := aBear_b w.1.1 w.1.2.1 w.1.2.2.1 (show c < (x.1 0).toNat by omega)
      have h2 := aHold_b w.1.1 w.1.2.1 w.1.2.2.2.2.1 (show c < (x.1 0).toNat by omega)
      show zrn (aRw x.1 b k w')
      unfold aRw
      rw [hc, Int.toNat_natCast]
      split
      · omega
      · split <;> omega⟩
    refine ⟨xsr x (aPl x.1 9 b, aRw x.1 b), iI (aPl x.1 9 b), ⟨w.1, w.2.1, w.2.2.1, wr, w.2.2.2.2⟩, fun σ h => ?_, fun σ h => ?_⟩
    · have hA : cA 0 x.1 (zwI σ 0 38 0 0) := cA_c h.1 (fun _ _ _ _ _ => zfn (by omega)) (zfe (by omega))
      obtain ⟨τ, g1, g2, g3⟩ := zc46_10 (b := b) w.1 9 0 (zwI σ 0 38 0 0) (some (.inl (iI b))) rfl (by show (b : Int) < 9; omega) ⟨by show -1 ≤ (b : Int); omega, by show (b : Int) < x.1 0; omega⟩ (Nat.zero_add _) hA zfs (fun j _ hj _ => absurd hj (Nat.not_lt_zero _))
      rw [show cE (aPk x.1 b 0) = b from if_neg (show ¬ (b : Int) < 0 by omega)] at g1
      have g1 : zrun (zev 62) zT_46 10 [some (.inr (.inr (0, 38))), some (.inr (.inr (0, 0))), some (.inl (iI b)), some (.inl (iI b)), some (.inl 0)] [] (zwI σ 0 38 0 0) = some (0, 0, τ) := g1
      have f : zFr WRc σ τ := zFr_tt (zFr_w (by omega)) g2
      have e46 : zev 63 46 [.inr (.inr (0, 38)), .inr (.inr (0, 0)), .inl (iI b)] σ = some (0, 0, τ) := by
        rw [ez_46]; exact g1
      rw [ez_124]
      simp only [zc13 h.1.1.1 ⟨b0, b1⟩ hz, zbs, zBi, decide_eq_true q, cond_true, e46]
      exact ⟨0, τ, by rw [g3.1], RC_r h f g3⟩
    · obtain ⟨τ, c1, c2, c3, c4, c5⟩ := zm172 (d := 56) h.1 w.1
      obtain ⟨τ2, g1, g2, g3, g4⟩ := zm226_21 (b := b) w.1 9 0 (zwI τ 0 60 16 0) (some (.inl (iI b))) rfl (by show (b : Int) < 9; omega) ⟨by show -1 ≤ (b : Int); omega, by show (b : Int) < x.1 0; omega⟩ (Nat.zero_add _) (mS_f c3 (zfn (by omega))) (mR_f c4 (zfn (by omega))) (mR_f c5 (zfn (by omega))) zfs (fun j _ hj _ => absurd hj (Nat.not_lt_zero _))
      rw [ez_226]
      simp only [zm150 (d := 61) h.1 ⟨b0, b1⟩ hz, zbs, zBi, decide_eq_true q, cond_true, c1]
      exact ⟨0, τ2, g1, RM_r h (zFr_tt (zFr_tt (zFr_i c2 fun _ _ _ q => by omega) (zFr_w (by omega))) g2) g3 g4⟩
theorem zc30 {d g b : Nat} {S : zS} {σ : zM} (hA : cA g S σ) (wa : wA S) (hb : b < (S 0).toNat) : ∃ τ, zev (d + 5) 30 [.inr (.inr (g, 0)), .inl (iI b)] σ = some (if aBrk S b = true then 2 else if aHold S b < aBear S b then 1 else 0, 0, τ) ∧ zFr (Ws g) σ τ := by
  have w1 := wa.1.2.1
  have h1 := aBear_b wa.1 wa.2.1 wa.2.2.1 hb
  have h2 := aHold_b wa.1 wa.2.1 wa.2.2.2.2.1 hb
  rw [ez_30]
  simp only [zc14 (d := d + 2) (z := b) hA.1 hA.2.1 wa.1 (show zrn (b : Int) by omega), zbs, zBi, Int.toNat_natCast, decide_eq_true (show (0 : Int) ≤ b ∧ (b : Int) < S 0 by omega), Bool.true_and]
  cases hk : aBrk S b
  · obtain ⟨τ, c1, c2⟩ := zc16 (d := d) hA.1 hA.2.2.1 hA.2.2.2.2.2.1 wa.1 wa.2.1 wa.2.2.2.2.1 hb
    simp only [Bool.not_false, cond_true, zc26 (d := d + 1) hA.1 hA.2.2.1 hA.2.2.2.1 wa.1 wa.2.1 wa.2.2.1 hb, zbs, c1, iI_lt (show zrn (aHold S b) by omega) (show zrn (aBear S b) by omega)]
    refine ⟨τ, ?_, zFr_i c2 fun _ _ _ q => ⟨q.1, by omega⟩⟩
    by_cases q : aHold S b < aBear S b
    · rw [if_pos q, if_neg (show ¬ (false = true) by decide), if_pos q]
    · rw [if_neg q, if_neg (show ¬ (false = true) by decide), if_neg q]
  · exact ⟨σ, rfl, zFr_r σ⟩
theorem zx_85 {x : zXx} (w : WX x) (z a : Int) (hz : zrn z) (ha : zrn a) : zCall 85 173 [.inl (iI z), .inl (iI a)] x := by
  have wb := w.1.1
  have b0 := wb.1
  have b1 := wb.2.1
  have m6 : ∀ {σ : zM}, zev 63 149 [.inr (.inl (Int32.toInt64 (iI a))), .inr (.inl 0), .inr (.inl 6)] σ = some (zB (decide (0 ≤ a ∧ a ≤ 6)), 0, σ) := zm149k (l := 0) (h := 6) ha (by decide) (by decide)
  by_cases q : 0 ≤ z ∧ z < x.1 0
  case neg =>
    refine zCq (-1) w (fun σ h => ?_) (fun σ h => ?_)
    · rw [ez_85]
      simp only [zc13 h.1.1.1 ⟨b0, b1⟩ hz, zbs, zBi, decide_eq_false q, cond_false]
      exact ⟨σ, rfl, zFr_r σ⟩
    · rw [ez_173]
      simp only [zm150 (d := 61) h.1 ⟨b0, b1⟩ hz, zbs, zBi, decide_eq_false q, cond_false]
      exact ⟨σ, rfl, zFr_r σ, h.1⟩
  case pos =>
    obtain ⟨b, rfl⟩ := zint q.1
    have hb : b < (x.1 0).toNat := by omega
    have w2 := wb.2.2 b hb
    have hpr : zrn (aPar x.1 b) := by unfold aPar; omega
    by_cases qa : 0 ≤ a ∧ a ≤ 6
    case neg =>
      refine zCq (-1) w (fun σ h => ?_) (fun σ h => ?_)
      · have n0 : ∀ k : Int, zrn k → (0 ≤ k ∧ k ≤ 6) → (iI a = iI k) = False := fun k hk hk2 => by rw [iI_eq ha hk]; exact eq_false (by omega)
        have n0' : (iI a = 0) = False := n0 0 (by decide) (by decide)
        have n1' : (iI a = 1) = False := n0 1 (by decide) (by decide)
        have n2' : (iI a = 2) = False := n0 2 (by decide) (by decide)
        have n3' : (iI a = 3) = False := n0 3 (by decide) (by decide)
        have n4' : (iI a = 4) = False := n0 4 (by decide) (by decide)
        have n5' : (iI a = 5) = False := n0 5 (by decide) (by decide)
        have n6' : (iI a = 6) = False := n0 6 (by decide) (by decide)
        rw [ez_85]
        simp only [zc13 h.1.1.1 ⟨b0, b1⟩ hz, zbs, zBi, decide_eq_true q, cond_true, n0', n1', n2', n3', n4', n5', n6', if_false]
        exact ⟨σ, rfl, zFr_r σ⟩
      · rw [ez_173]
        simp only [zm150 (d := 61) h.1 ⟨b0, b1⟩ hz, zbs, zBi, decide_eq_true q, cond_true, m6, decide_eq_false qa, cond_false]
        exact ⟨σ, rfl, zFr_r σ, h.1⟩
    case pos =>
      have hg : ∀ {y : zR}, zgd (zin (iI b) 9) y = y := fun {y} => zgd_t (iI_ink (z := b) (k := b) rfl (show b < 9 by omega) (by decide))
      have hN : Int32.toNatClampNeg (iI b) = b := iI_Nn (by omega)
      have hm : ∀ σ, RM x σ → ∃ τ, zev 63 172 [.inr (.inr (0, 60))] σ = some (0, 0, τ) ∧ zFr WM σ τ ∧ mS 61 x.1 τ ∧ mR 65 x.1 (aHold x.1) τ ∧ mR 66 x.1 (aBear x.1) τ := fun σ h => zm172 (d := 56) h.1 w.1
      rcases (by omega : a = 0 ∨ a = 1 ∨ a = 2 ∨ a = 3 ∨ a = 4 ∨ a = 5 ∨ a = 6) with rfl | rfl | rfl | rfl | rfl | rfl | rfl
      · refine zCq (iI (x.1 (7 + 5 * b))) w (fun σ h => ?_) (fun σ h => ?_)
        · rw [ez_85]
          simp only [zc13 h.1.1.1 ⟨b0, b1⟩ hz, zbs, zBi, decide_eq_true q, cond_true, hg, hN, (h.1.1.2 b hb).1]
          exact ⟨σ, rfl, zFr_r σ⟩
        · obtain ⟨τ, c1, c2, c3, c4, c5⟩ := hm σ h
          have e := zm156 (d := 61) (b := b) (w := 0) c3 (by omega)
          have e : zev 63 156 [.inr (.inr (0, 60)), .inl (iI b), .inl (iI 0)] τ = some (iI (x.1 (7 + 5 * b)), 0, τ) := e
          rw [ez_173]
          simp only [zm150 (d := 61) h.1 ⟨b0, b1⟩ hz, zbs, zBi, decide_eq_true q, cond_true, m6, decide_eq_true qa, c1]
          refine ⟨τ, ?_, c2, c3⟩
          rw [if_neg (by decide), if_neg (by decide), if_neg (by decide), if_neg (by decide), if_neg (by decide), if_neg (by decide), e]
          rfl
      · refine zCq (iI (cE (aPar x.1 b))) w (fun σ h => ?_) (fun σ h => ?_)
        · rw [ez_85]
          simp only [zc13 h.1.1.1 ⟨b0, b1⟩ hz, zbs, zBi, decide_eq_true q, cond_true, hg, hN, (h.1.1.2 b hb).2.1]
          exact ⟨σ, rfl, zFr_r σ⟩
        · obtain ⟨τ, c1, c2, c3, c4, c5⟩ := hm σ h
          rw [ez_173]
          simp only [zm150 (d := 61) h.1 ⟨b0, b1⟩ hz, zbs, zBi, decide_eq_true q, cond_true, m6, decide_eq_true qa, c1, zm158 (d := 60) c3 (show b < 9 by omega), iI_lt0 hpr]
          refine ⟨τ, ?_, c2, c3⟩
          rw [if_pos (show iI 1 = 1 from rfl)]
          unfold cE
          by_cases qp : aPar x.1 b < 0
          · rw [if_pos qp, if_pos qp]; rfl
          · rw [if_neg qp, if_neg qp]
      · refine zCq (iI (x.1 (9 + 5 * b))) w (fun σ h => ?_) (fun σ h => ?_)
        · rw [ez_85]
          simp only [zc13 h.1.1.1 ⟨b0, b1⟩ hz, zbs, zBi, decide_eq_true q, cond_true, hg, hN, (h.1.1.2 b hb).2.2.1]
          exact ⟨σ, rfl, zFr_r σ⟩
        · obtain ⟨τ, c1, c2, c3, c4, c5⟩ := hm σ h
          have e := zm156 (d := 61) (b := b) (w := 2) c3 (by omega)
          rw [show 7 + 5 * b + 2 = 9 + 5 * b by omega] at e
          have e : zev 63 156 [.inr (.inr (0, 60)), .inl (iI b), .inl (iI 2)] τ = some (iI (x.1 (9 + 5 * b)), 0, τ) := e
          rw [ez_173]
          simp only [zm150 (d := 61) h.1 ⟨b0, b1⟩ hz, zbs, zBi, decide_eq_true q, cond_true, m6, decide_eq_true qa, c1]
          refine ⟨τ, ?_, c2, c3⟩
          rw [if_neg (by decide), if_pos (show iI 2 = 2 from rfl), e]
          rfl
      · refine zCq (iI (x.1 (10 + 5 * b))) w (fun σ h => ?_) (fun σ h => ?_)
        · rw [ez_85]
          simp only [zc13 h.1.1.1 ⟨b0, b1⟩ hz, zbs, zBi, decide_eq_true q, cond_true, hg, hN, (h.1.1.2 b hb).2.2.2.1]
          exact ⟨σ, rfl, zFr_r σ⟩
        · obtain ⟨τ, c1, c2, c3, c4, c5⟩ := hm σ h
          have e := zm156 (d := 61) (b := b) (w := 3) c3 (by omega)
          rw [show 7 + 5 * b + 3 = 10 + 5 * b by omega] at e
          have e : zev 63 156 [.inr (.inr (0, 60)), .inl (iI b), .inl (iI 3)] τ = some (iI (x.1 (10 + 5 * b)), 0, τ) := e
          rw [ez_173]
          simp only [zm150 (d := 61) h.1 ⟨b0, b1⟩ hz, zbs, zBi, decide_eq_true q, cond_true, m6, decide_eq_true qa, c1]
          refine ⟨τ, ?_, c2, c3⟩
          rw [if_neg (by decide), if_neg (by decide), if_pos (show iI 3 = 3 from rfl), e]
          rfl
      · refine zCq (iI (aHold x.1 b)) w (fun σ h => ?_) (fun σ h => ?_)
        · obtain ⟨τ, c1, c2⟩ := zc16 (d := 59) h.1.1 h.1.2.2.1 h.1.2.2.2.2.2.1 w.1.1 w.1.2.1 w.1.2.2.2.2.1 hb
          rw [ez_85]
          simp only [zc13 h.1.1.1 ⟨b0, b1⟩ hz, zbs, zBi, decide_eq_true q, cond_true, c1]
          exact ⟨τ, rfl, zFr_i c2 fun _ _ _ q => by omega⟩
        · obtain ⟨τ, c1, c2, c3, c4, c5⟩ := hm σ h
          rw [ez_173]
          simp only [zm150 (d := 61) h.1 ⟨b0, b1⟩ hz, zbs, zBi, decide_eq_true q, cond_true, m6, decide_eq_true qa, c1, hg, hN, c4 b hb]
          exact ⟨τ, rfl, c2, c3⟩
      · refine zCq (iI (aBear x.1 b)) w (fun σ h => ?_) (fun σ h => ?_)
        · rw [ez_85]
          simp only [zc13 h.1.1.1 ⟨b0, b1⟩ hz, zbs, zBi, decide_eq_true q, cond_true, zc26 (d := 60) h.1.1 h.1.2.2.1 h.1.2.2.2.1 w.1.1 w.1.2.1 w.1.2.2.1 hb]
          exact ⟨σ, rfl, zFr_r σ⟩
        · obtain ⟨τ, c1, c2, c3, c4, c5⟩ := hm σ h
          rw [ez_173]
          simp only [zm150 (d := 61) h.1 ⟨b0, b1⟩ hz, zbs, zBi, decide_eq_true q, cond_true, m6, decide_eq_true qa, c1, hg, hN, c5 b hb]
          exact ⟨τ, rfl, c2, c3⟩
      · refine zCq (if aBrk x.1 b = true then 2 else if aHold x.1 b < aBear x.1 b then 1 else 0) w (fun σ h => ?_) (fun σ h => ?_)
        · obtain ⟨τ, c1, c2⟩ := zc30 (d := 58) h.1 w.1 hb
          rw [ez_85]
          simp only [zc13 h.1.1.1 ⟨b0, b1⟩ hz, zbs, zBi, decide_eq_true q, cond_true, c1]
          exact ⟨τ, rfl, zFr_WC0 c2⟩
        · obtain ⟨τ, c1, c2, c3, c4, c5⟩ := hm σ h
          rw [ez_173]
          simp only [zm150 (d := 61) h.1 ⟨b0, b1⟩ hz, zbs, zBi, decide_eq_true q, cond_true, m6, decide_eq_true qa, c1, zm157 (d := 60) c3 (show b < 9 by omega) (show 0 ≤ x.1 (11 + 5 * b) ∧ x.1 (11 + 5 * b) ≤ 1 by omega), zm169 (d := 59) c3 w.1.1 (mF_sp w.1 c4 c5) hb]
          refine ⟨τ, ?_, c2, c3⟩
          rw [if_neg (by decide), if_neg (by decide), if_neg (by decide), if_neg (by decide), if_neg (by decide), if_pos (show iI 6 = 6 from rfl)]
          unfold aCr aSp
          cases aBrk x.1 b
          · rw [cond_false, Bool.not_false, Bool.and_true, if_neg (by decide)]
            by_cases qc : aHold x.1 b < aBear x.1 b
            · rw [if_pos qc, decide_eq_true (by omega)]; rfl
            · rw [if_neg qc, decide_eq_false (by omega)]; rfl
          · rfl
theorem zx_92 {x : zXx} (w : WX x) (z a : Int) (hz : zrn z) (ha : zrn a) : zCall 92 183 [.inl (iI z), .inl (iI a)] x := by
  have b0 := w.1.1.1
  have b1 := w.1.1.2.1
  have wp := w.1.2.2.1
  have p0 := wp.1
  have p1 := wp.2.1
  have m2 : ∀ {σ : zM}, zev 63 149 [.inr (.inl (Int32.toInt64 (iI a))), .inr (.inl 0), .inr (.inl 2)] σ = some (zB (decide (0 ≤ a ∧ a ≤ 2)), 0, σ) := zm149k (l := 0) (h := 2) ha (by decide) (by decide)
  by_cases q : 0 ≤ z ∧ z < x.1 2
  case neg =>
    refine zCq (-1) w (fun σ h => ?_) (fun σ h => ?_)
    · rw [ez_92]
      simp only [zc37 h.1.2.2.2.1.1 ⟨p0, p1⟩ hz, zbs, zBi, decide_eq_false q, cond_false]
      exact ⟨σ, rfl, zFr_r σ⟩
    · rw [ez_183]
      simp only [zm151 (d := 61) h.1 ⟨p0, p1⟩ hz, zbs, zBi, decide_eq_false q, cond_false]
      exact ⟨σ, rfl, zFr_r σ, h.1⟩
  case pos =>
    obtain ⟨p, rfl⟩ := zint q.1
    have hp : p < (x.1 2).toNat := by omega
    have hr := aSeat_r wp hp
    by_cases qa : 0 ≤ a ∧ a ≤ 2
    case neg =>
      refine zCq (-1) w (fun σ h => ?_) (fun σ h => ?_)
      · have n0 : ∀ k : Int, zrn k → (0 ≤ k ∧ k ≤ 2) → (iI a = iI k) = False := fun k hk hk2 => by rw [iI_eq ha hk]; exact eq_false (by omega)
        have n0' : (iI a = 0) = False := n0 0 (by decide) (by decide)
        have n1' : (iI a = 1) = False := n0 1 (by decide) (by decide)
        have n2' : (iI a = 2) = False := n0 2 (by decide) (by decide)
        rw [ez_92]
        simp only [zc37 h.1.2.2.2.1.1 ⟨p0, p1⟩ hz, zbs, zBi, decide_eq_true q, cond_true, n0', n1', n2', if_false]
        exact ⟨σ, rfl, zFr_r σ⟩
      · rw [ez_183]
        simp only [zm151 (d := 61) h.1 ⟨p0, p1⟩ hz, zbs, zBi, decide_eq_true q, cond_true, m2, decide_eq_false qa, cond_false]
        exact ⟨σ, rfl, zFr_r σ, h.1⟩
    case pos =>
      have hg : ∀ {y : zR}, zgd (zin (iI p) 8) y = y := fun {y} => zgd_t (iI_ink (z := p) (k := p) rfl (show p < 8 by omega) (by decide))
      have hN : Int32.toNatClampNeg (iI p) = p := iI_Nn (by omega)
      rcases (by omega : a = 0 ∨ a = 1 ∨ a = 2) with rfl | rfl | rfl
      · refine zCq (iI (x.1 (52 + 3 * p))) w (fun σ h => ?_) (fun σ h => ?_)
        · rw [ez_92]
          simp only [zc37 h.1.2.2.2.1.1 ⟨p0, p1⟩ hz, zbs, zBi, decide_eq_true q, cond_true, hg, hN, (h.1.2.2.2.1.2 p hp).1]
          exact ⟨σ, rfl, zFr_r σ⟩
        · have e := zm178 (d := 61) (p := p) (w := 0) h.1 (by omega)
          have e : zev 63 178 [.inr (.inr (0, 60)), .inl (iI p), .inl (iI 0)] σ = some (iI (x.1 (52 + 3 * p)), 0, σ) := e
          rw [ez_183]
          simp only [zm151 (d := 61) h.1 ⟨p0, p1⟩ hz, zbs, zBi, decide_eq_true q, cond_true, m2, decide_eq_true qa]
          refine ⟨σ, ?_, zFr_r σ, h.1⟩
          rw [if_pos (by decide), e]; rfl
      · refine zCq (iI (x.1 (53 + 3 * p))) w (fun σ h => ?_) (fun σ h => ?_)
        · rw [ez_92]
          simp only [zc37 h.1.2.2.2.1.1 ⟨p0, p1⟩ hz, zbs, zBi, decide_eq_true q, cond_true, hg, hN, (h.1.2.2.2.1.2 p hp).2.1]
          exact ⟨σ, rfl, zFr_r σ⟩
        · have e := zm178 (d := 61) (p := p) (w := 1) h.1 (by omega)
          rw [show 52 + 3 * p + 1 = 53 + 3 * p by omega] at e
          have e : zev 63 178 [.inr (.inr (0, 60)), .inl (iI p), .inl (iI 1)] σ = some (iI (x.1 (53 + 3 * p)), 0, σ) := e
          rw [ez_183]
          simp only [zm151 (d := 61) h.1 ⟨p0, p1⟩ hz, zbs, zBi, decide_eq_true q, cond_true, m2, decide_eq_true qa]
          refine ⟨σ, ?_, zFr_r σ, h.1⟩
          rw [if_pos (by decide), e]; rfl
      · refine zCq (iI (cE (aSeat x.1 p))) w (fun σ h => ?_) (fun σ h => ?_)
        · rw [ez_92]
          simp only [zc37 h.1.2.2.2.1.1 ⟨p0, p1⟩ hz, zbs, zBi, decide_eq_true q, cond_true, hg, hN, (h.1.2.2.2.1.2 p hp).2.2]
          exact ⟨σ, rfl, zFr_r σ⟩
        · rw [ez_183]
          simp only [zm151 (d := 61) h.1 ⟨p0, p1⟩ hz, zbs, zBi, decide_eq_true q, cond_true, m2, decide_eq_true qa, zm182 (d := 59) h.1 (show p < 8 by omega) ⟨hr.1, by omega⟩]
          refine ⟨σ, ?_, zFr_r σ, h.1⟩
          rw [if_neg (by decide)]
theorem zc45 {d : Nat} {k a : Int} {r : zXr} {σ : zM} (h : σ.1 0 38 0 = iI r.1) (hr : r.1 ≤ 9) (hk : zrn k) (ha : zrn a) : zev (d + 1) 45 [.inr (.inr (0, 38)), .inl (iI k), .inl (iI a)] σ = some (zB (decide ((0 ≤ k ∧ k < r.1) ∧ 0 ≤ a ∧ a < 3)), 0, σ) := by
  have e3 : (iI a < 3) = (a < 3) := iI_lt (b := 3) ha (by decide)
  rw [ez_45]
  simp only [h, iI_lt0 hk, iI_lt0 ha, iI_lt hk (show zrn (r.1 : Int) by omega), e3, zg30, zg31]
  by_cases q1 : k < 0
  · rw [if_pos q1, decide_eq_false (by omega)]; rfl
  · by_cases q2 : k < r.1
    · by_cases q3 : a < 0
      · rw [if_neg q1, if_pos q2, if_pos q3, decide_eq_false (by omega)]; rfl
      · by_cases q4 : a < 3
        · rw [if_neg q1, if_pos q2, if_neg q3, if_pos q4, decide_eq_true (by omega)]; rfl
        · rw [if_neg q1, if_pos q2, if_neg q3, if_neg q4, decide_eq_false (by omega)]; rfl
    · rw [if_neg q1, if_neg q2, decide_eq_false (by omega)]; rfl
theorem zm227 {d : Nat} {k a : Int} {r : zXr} {σ : zM} (h : σ.1 0 60 16 = iI r.1) (hr : r.1 ≤ 9) (hk : zrn k) (ha : zrn a) : zev (d + 2) 227 [.inr (.inr (0, 60)), .inl (iI k), .inl (iI a)] σ = some (zB (decide ((0 ≤ k ∧ k < r.1) ∧ 0 ≤ a ∧ a < 3)), 0, σ) := by
  have m2 : ∀ {σ : zM}, zev (d + 1) 149 [.inr (.inl (Int32.toInt64 (iI a))), .inr (.inl 0), .inr (.inl 2)] σ = some (zB (decide (0 ≤ a ∧ a ≤ 2)), 0, σ) := zm149k (l := 0) (h := 2) ha (by decide) (by decide)
  have m1 : ∀ {σ : zM}, zev (d + 1) 149 [.inr (.inl (Int32.toInt64 (iI k))), .inr (.inl 0), .inr (.inl (Int32.toInt64 (iI ((r.1 : Int) - 1))))] σ = some (zB (decide (0 ≤ k ∧ k ≤ (r.1 : Int) - 1)), 0, σ) := fun {σ} => by
    rw [zm149 hk, zt64 (by omega)]
    rfl
  rw [ez_227]
  simp only [h, iI_s1, m1, m2, zbs, zBi, zg30, zg31]
  by_cases q1 : 0 ≤ k ∧ k ≤ (r.1 : Int) - 1
  · by_cases q2 : 0 ≤ a ∧ a ≤ 2
    · rw [decide_eq_true q1, decide_eq_true q2, decide_eq_true (by omega)]; rfl
    · rw [decide_eq_true q1, decide_eq_false q2, decide_eq_false (by omega)]; rfl
  · rw [decide_eq_false q1, cond_false, decide_eq_false (by omega)]; rfl
theorem zx_125 {x : zXx} (w : WX x) (k a : Int) (hk : zrn k) (ha : zrn a) : zCall 125 228 [.inl (iI k), .inl (iI a)] x := by
  have wr := w.2.2.2.1
  by_cases q : (0 ≤ k ∧ k < (xr x).1) ∧ 0 ≤ a ∧ a < 3
  · obtain ⟨n, rfl⟩ := zint q.1.1
    obtain ⟨m, rfl⟩ := zint q.2.1
    have hn : n < (xr x).1 := by omega
    have hm : m < 3 := by omega
    have hn9 := wr.1
    refine zCq (iI ((xr x).2 n m)) w (fun σ h => ?_) (fun σ h => ?_)
    · rw [ez_125]
      simp only [zc45 h.2.2.2.1.1 wr.1 hk ha, zbs, zBi, decide_eq_true q, cond_true, zgd_t (iI_ink (z := n) (k := n) rfl (show n < 9 by omega) (by decide)), zgd_t (iI_ink (z := m) (k := m) rfl hm (by decide)), iI_Nn (show n ≤ 2147483647 by omega), iI_Nn (show m ≤ 2147483647 by omega), h.2.2.2.1.2 n m hn hm]
      exact ⟨σ, rfl, zFr_r σ⟩
    · have i0 : (3 : Int32) * iI n + iI m = iI ((3 * n + m : Nat) : Int) := by
        show iI 3 * iI n + iI m = _
        rw [iI_mul, iI_add]; congr 1
      rw [ez_228]
      simp only [zm227 (d := 61) h.2.2.2.1.1 wr.1 hk ha, zbs, zBi, decide_eq_true q, cond_true, i0, zgd_t (iI_ink (z := ((3 * n + m : Nat) : Int)) (k := 3 * n + m) rfl (show 3 * n + m < 27 by omega) (by decide)), iI_Nn (show 3 * n + m ≤ 2147483647 by omega), h.2.2.2.1.2 n m hn hm]
      exact ⟨σ, rfl, zFr_r σ, h.1⟩
  · refine zCq (-9) w (fun σ h => ?_) (fun σ h => ?_)
    · rw [ez_125]
      simp only [zc45 h.2.2.2.1.1 wr.1 hk ha, zbs, zBi, decide_eq_false q, cond_false]
      exact ⟨σ, rfl, zFr_r σ⟩
    · rw [ez_228]
      simp only [zm227 (d := 61) h.2.2.2.1.1 wr.1 hk ha, zbs, zBi, decide_eq_false q, cond_false]
      exact ⟨σ, rfl, zFr_r σ, h.1⟩
theorem zx_126 {x : zXx} (w : WX x) (k a v : Int) (hk : zrn k) (ha : zrn a) (hv : zrn v) : zCall 126 229 [.inl (iI k), .inl (iI a), .inl (iI v)] x := by
  have wr := w.2.2.2.1
  by_cases q : (0 ≤ k ∧ k < (xr x).1) ∧ 0 ≤ a ∧ a < 3
  · obtain ⟨n, rfl⟩ := zint q.1.1
    obtain ⟨m, rfl⟩ := zint q.2.1
    have hn : n < (xr x).1 := by omega
    have hm : m < 3 := by omega
    have hn9 := wr.1
    refine ⟨xsr x ((xr x).1, fun j c => if j = n ∧ c = m then v else (xr x).2 j c), iI ((xr x).2 n m), ⟨w.1, w.2.1, w.2.2.1, ⟨wr.1, fun j c hj hc => ?_⟩, w.2.2.2.2⟩, fun σ h => ?_, fun σ h => ?_⟩
    · show zrn (if j = n ∧ c = m then v else (xr x).2 j c)
      split
      · exact hv
      · exact wr.2 j c hj hc
    · have e47 : ∀ {σ : zM}, zev 63 147 [.inr (.inr (n, 40)), .inl (iI m), .inl (iI v)] σ = some (σ.1 n 40 m, 0, zwI σ n 40 m (iI v)) := fun {σ} => by
        rw [ez_147k40]
        simp only [zgd_t (iI_ink (z := m) (k := m) rfl hm (by decide)), iI_Nn (show m ≤ 2147483647 by omega)]
      rw [ez_126]
      simp only [zc45 h.2.2.2.1.1 wr.1 hk ha, zbs, zBi, decide_eq_true q, cond_true, zgd_t (iI_ink (z := n) (k := n) rfl (show n < 9 by omega) (by decide)), iI_Nn (show n ≤ 2147483647 by omega), e47]
      refine ⟨0, _, by rw [h.2.2.2.1.2 n m hn hm], RC_r h (zFr_w (by omega)) ⟨by rw [zfe (by omega)]; exact h.2.2.2.1.1, fun j c hj hc => ?_⟩⟩
      show _ = iI (if j = n ∧ c = m then v else (xr x).2 j c)
      by_cases qj : j = n ∧ c = m
      · obtain ⟨rfl, rfl⟩ := qj
        rw [zfs, if_pos ⟨rfl, rfl⟩]
      · rw [zfe (by omega), if_neg qj]
        exact h.2.2.2.1.2 j c hj hc
    · have i0 : (3 : Int32) * iI n + iI m = iI ((3 * n + m : Nat) : Int) := by
        show iI 3 * iI n + iI m = _
        rw [iI_mul, iI_add]; congr 1
      rw [ez_229]
      simp only [zm227 (d := 61) h.2.2.2.1.1 wr.1 hk ha, zbs, zBi, decide_eq_true q, cond_true, i0, zgd_t (iI_ink (z := ((3 * n + m : Nat) : Int)) (k := 3 * n + m) rfl (show 3 * n + m < 27 by omega) (by decide)), iI_Nn (show 3 * n + m ≤ 2147483647 by omega), h.2.2.2.1.2 n m hn hm]
      refine ⟨0, _, rfl, RM_r h (zFr_w (by omega)) (mS_f h.1 (zfn (by omega))) ⟨by rw [zfe (by omega)]; exact h.2.2.2.1.1, fun j c hj hc => ?_⟩⟩
      show _ = iI (if j = n ∧ c = m then v else (xr x).2 j c)
      by_cases qj : j = n ∧ c = m
      · obtain ⟨rfl, rfl⟩ := qj
        rw [zfs, if_pos ⟨rfl, rfl⟩]
      · rw [zfe (by omega), if_neg qj]
        exact h.2.2.2.1.2 j c hj hc
  · refine zCq (-9) w (fun σ h => ?_) (fun σ h => ?_)
    · rw [ez_126]
      simp only [zc45 h.2.2.2.1.1 wr.1 hk ha, zbs, zBi, decide_eq_false q, cond_false]
      exact ⟨σ, rfl, zFr_r σ⟩
    · rw [ez_229]
      simp only [zm227 (d := 61) h.2.2.2.1.1 wr.1 hk ha, zbs, zBi, decide_eq_false q, cond_false]
      exact ⟨σ, rfl, zFr_r σ, h.1⟩
