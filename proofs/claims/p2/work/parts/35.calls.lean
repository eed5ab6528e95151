def aTot (T : zS) : Int := aStd (aFl 9 T).1 0 (((aFl 9 T).1 2).toNat) + aStd (aFl 9 T).1 1 (((aFl 9 T).1 2).toNat)
theorem aTot_b {T : zS} (w : wA T) : 0 ≤ aTot T ∧ aTot T ≤ 3200 := by
  have wf := wA_fl 9 w
  have p1 := wf.2.2.1.2.1
  have s0 := aStd_b (x := 0) wf.2.2.1 (((aFl 9 T).1 2).toNat) (Nat.le_refl _)
  have s1 := aStd_b (x := 1) wf.2.2.1 (((aFl 9 T).1 2).toNat) (Nat.le_refl _)
  unfold aTot
  omega
theorem zcTot {d : Nat} {T : zS} {σ : zM} (w : wA T) (hA : cA 1 T σ) : ∃ τ a b, zev (d + 6) 33 [.inr (.inr (1, 0))] σ = some (a, 0, τ) ∧ zev (d + 6) 38 [.inr (.inr (1, 15)), .inl 0] τ = some (b, 0, τ) ∧ (∃ c, zev (d + 6) 38 [.inr (.inr (1, 15)), .inl 1] τ = some (c, 0, τ) ∧ b + c = iI (aTot T)) ∧ zFr (WG 1) σ τ := by
  have wf := wA_fl 9 w
  obtain ⟨τ, b1, b2, b3⟩ := zc33 (d := d) w hA
  refine ⟨τ, _, iI (aStd (aFl 9 T).1 0 (((aFl 9 T).1 2).toNat)), b1, zc38 (d := d + 5) (x := 0) b3.2.2.2.1 wf.1 wf.2.2.1 (by decide), ⟨iI (aStd (aFl 9 T).1 1 (((aFl 9 T).1 2).toNat)), zc38 (d := d + 5) (x := 1) b3.2.2.2.1 wf.1 wf.2.2.1 (by decide), iI_add _ _⟩, zFr_i b2 fun _ _ _ q => by omega⟩
theorem zc108 {b : Nat} {S : zS} {σ : zM} (hA : cA 0 S σ) (wa : wA S) (hb : b < (S 0).toNat) : ∃ τ, zev 63 108 [.inr (.inr (0, 30)), .inl (iI b)] σ = some (iI (aTot (zup S (7 + 5 * b + 0) 4)), 0, τ) ∧ zFr (WG 1) σ τ := by
  have b1 := wa.1.2.1
  obtain ⟨τ, c1, c2, c3⟩ := zc25 (d := 57) (g := 1) (by decide) wa hA
  have h2 := cA_up (b := b) (w := 0) (v := 4) c3 wa hb (Or.inl rfl)
  have w2 := wA_up (b := b) (w := 0) (v := 4) wa hb (by omega)
  obtain ⟨τ1, v, y, a1, a2, ⟨c, a3, a4⟩, a5⟩ := zcTot (d := 56) w2 h2
  have a1 : zev 62 33 [.inr (.inr (1, 0))] (zwI τ 1 2 b 4) = some (v, 0, τ1) := a1
  rw [ez_108]
  simp only [c1, zbs, zgd_t (iI_ink (z := b) (k := b) rfl (show b < 9 by omega) (by decide)), iI_Nn (show b ≤ 2147483647 by omega), a1, a2, a3, a4]
  exact ⟨τ1, rfl, zFr_tt c2 (zFr_tt (zFr_w ⟨rfl, by omega⟩) a5)⟩
def aPp (S : zS) : Nat → Int × Int
  | 0 => (aTot S, -3)
  | n + 1 => if (aPp S n).1 < aTot (zup S (7 + 5 * n + 0) 4) then (aTot (zup S (7 + 5 * n + 0) 4), (n : Int)) else aPp S n
theorem aPp_b {S : zS} (w : wA S) : ∀ (n : Nat), n ≤ (S 0).toNat → 0 ≤ (aPp S n).1 ∧ (aPp S n).1 ≤ 3200
  | 0, _ => aTot_b w
  | n + 1, hn => by
    have h := aPp_b w n (by omega)
    have h2 := aTot_b (wA_up (b := n) (w := 0) (v := 4) w (by omega) (by omega))
    have e : aPp S (n + 1) = if (aPp S n).1 < aTot (zup S (7 + 5 * n + 0) 4) then (aTot (zup S (7 + 5 * n + 0) 4), (n : Int)) else aPp S n := rfl
    rw [e]
    split
    · exact h2
    · exact h
theorem zx_104 {x : zXx} (w : WX x) : zCall 104 200 [] x := by
  have wb := w.1.1
  have b0 := wb.1
  have b1 := wb.2.1
  refine zCq (iI (aPp x.1 ((x.1 0).toNat)).2) w (fun σ h => ?_) (fun σ h => ?_)
  · obtain ⟨τ, c1, c2, c3⟩ := zc25 (d := 58) (g := 1) (by decide) w.1 h.1
    obtain ⟨τ1, v, y, a1, a2, ⟨c, a3, a4⟩, a5⟩ := zcTot (d := 57) w.1 c3
    have f1 : zFr (WG 1) σ τ1 := zFr_tt c2 a5
    have hA1 : cA 0 x.1 τ1 := cA_c h.1 (fun k _ _ _ _ => zFr_f f1 (fun i q => absurd q.1 (by decide))) (f1.1 _ _ _ (fun q => absurd q.1 (by decide)))
    rw [ez_104]
    simp only [c1, a1, a2, a3, a4, zbs]
    have key : ∀ n k (τ2 : zM) (d4 : Option zV), k + n = (x.1 0).toNat → zFr (WG 1) σ τ2 → cA 0 x.1 τ2 → ∃ τ, zrun (zev 63) zT_104 48 [some (.inr (.inr (0, 30))), some (.inl (iI (aPp x.1 k).1)), some (.inl (iI (aPp x.1 k).2)), some (.inl (iI k)), d4] [] τ2 = some (iI (aPp x.1 ((x.1 0).toNat)).2, 0, τ) ∧ zFr (WG 1) σ τ := by
      intro n
      induction n with
      | zero =>
        intro k τ2 d4 hk f hA
        have ek : k = (x.1 0).toNat := by omega
        rw [ez_104_48, hA.1.1, if_neg (by rw [iI_lt (by omega) (by omega)]; omega), ek]
        exact ⟨τ2, rfl, f⟩
      | succ n ih =>
        intro k τ2 d4 hk f hA
        have hb := aPp_b w.1 k (by omega)
        have ht := aTot_b (wA_up (b := k) (w := 0) (v := 4) w.1 (by omega) (by omega))
        have e : aPp x.1 (k + 1) = if (aPp x.1 k).1 < aTot (zup x.1 (7 + 5 * k + 0) 4) then (aTot (zup x.1 (7 + 5 * k + 0) 4), (k : Int)) else aPp x.1 k := rfl
        obtain ⟨τ3, g1, g2⟩ := zc108 (b := k) hA w.1 (by omega)
        have f3 := zFr_tt f g2
        have hA3 : cA 0 x.1 τ3 := cA_c h.1 (fun k _ _ _ _ => zFr_f f3 (fun i q => absurd q.1 (by decide))) (f3.1 _ _ _ (fun q => absurd q.1 (by decide)))
        rw [ez_104_48, hA.1.1, if_pos (by rw [iI_lt (by omega) (by omega)]; omega), g1]
        simp only [zbs, hki1, iI_lt (show zrn (aPp x.1 k).1 by omega) (show zrn (aTot (zup x.1 (7 + 5 * k + 0) 4)) by omega)]
        have ih' := ih (k + 1) τ3 (some (.inl (iI (aTot (zup x.1 (7 + 5 * k + 0) 4))))) (by omega) f3 hA3
        by_cases q : (aPp x.1 k).1 < aTot (zup x.1 (7 + 5 * k + 0) 4)
        · rw [if_pos q] at e
          rw [e] at ih'
          rw [if_pos q]
          exact ih'
        · rw [if_neg q] at e
          rw [e] at ih'
          rw [if_neg q]
          exact ih'
    obtain ⟨τ4, g1, g2⟩ := key ((x.1 0).toNat) 0 τ1 none (by omega) f1 hA1
    exact ⟨τ4, g1, zFr_i g2 fun _ _ _ q => by omega⟩
  · obtain ⟨τ, c1, c2, c3, c4⟩ := zm193 (d := 54) h.1 w.1
    have tot : ∀ (τ : zM) (T : zS), (∀ x : Nat, x ≤ 1 → τ.1 0 67 x = iI (aStd (aFl 9 T).1 x (((aFl 9 T).1 2).toNat))) → τ.1 0 67 0 + τ.1 0 67 1 = iI (aTot T) := fun τ T hh => by
      rw [hh 0 (by decide), hh 1 (by decide), iI_add]
      rfl
    rw [ez_200]
    simp only [c1, zbs, tot τ x.1 c4]
    have key : ∀ n k (τ2 : zM) (d4 : Option zV), k + n = (x.1 0).toNat → zFr WM σ τ2 → mS 61 x.1 τ2 → ∃ τ, zrun (zev 63) zT_200 23 [some (.inr (.inr (0, 60))), some (.inl (iI (aPp x.1 k).1)), some (.inl (iI (aPp x.1 k).2)), some (.inl (iI k)), d4] [] τ2 = some (iI (aPp x.1 ((x.1 0).toNat)).2, 0, τ) ∧ zFr WM σ τ ∧ mS 61 x.1 τ := by
      intro n
      induction n with
      | zero =>
        intro k τ2 d4 hk f hS
        have ek : k = (x.1 0).toNat := by omega
        rw [ez_200_23, hS 0 (by decide), if_neg (by rw [iI_lt (by omega) (by omega)]; omega), ek]
        exact ⟨τ2, rfl, f, hS⟩
      | succ n ih =>
        intro k τ2 d4 hk f hS
        have hb := aPp_b w.1 k (by omega)
        have wk := wA_up (b := k) (w := 0) (v := 4) w.1 (by omega) (by omega)
        have ht := aTot_b wk
        have e : aPp x.1 (k + 1) = if (aPp x.1 k).1 < aTot (zup x.1 (7 + 5 * k + 0) 4) then (aTot (zup x.1 (7 + 5 * k + 0) 4), (k : Int)) else aPp x.1 k := rfl
        have e6 := zm156 (d := 61) (b := k) (w := 0) hS (by omega)
        have e6 : zev 63 156 [.inr (.inr (0, 60)), .inl (iI k), .inl 0] τ2 = _ := e6
        have e5 : ∀ σ : zM, zev 63 155 [.inl (iI k), .inl 0] σ = some (iI ((7 + 5 * k + 0 : Nat) : Int), 0, σ) := fun σ => zm155 (d := 62) (b := k) (w := 0)
        obtain ⟨τ3, g1, g2, g3, g4⟩ := zm193 (d := 54) (mS_up (i := 7 + 5 * k + 0) (v := 4) hS) wk
        have g1 : zev 63 193 [.inr (.inr (0, 60))] (zwI τ2 0 61 (7 + 5 * k + 0) 4) = some (0, 0, τ3) := g1
        have hS3 := mS_up (i := 7 + 5 * k + 0) (v := x.1 (7 + 5 * k + 0)) g3
        rw [zup_id] at hS3
        have hs : (zwI τ3 0 61 (7 + 5 * k + 0) (iI (x.1 (7 + 5 * k + 0)))).1 0 67 0 + (zwI τ3 0 61 (7 + 5 * k + 0) (iI (x.1 (7 + 5 * k + 0)))).1 0 67 1 = iI (aTot (zup x.1 (7 + 5 * k + 0) 4)) := by
          rw [zfe (by omega), zfe (by omega)]
          exact tot τ3 _ g4
        rw [ez_200_23, hS 0 (by decide), if_pos (by rw [iI_lt (by omega) (by omega)]; omega)]
        simp only [e6, e5, zbs, zgd_t (iI_ink (z := ((7 + 5 * k + 0 : Nat) : Int)) (k := 7 + 5 * k + 0) rfl (show 7 + 5 * k + 0 < 320 by omega) (by decide)), iI_Nn (show 7 + 5 * k + 0 ≤ 2147483647 by omega), g1, hs, iI_lt (show zrn (aPp x.1 k).1 by omega) (show zrn (aTot (zup x.1 (7 + 5 * k + 0) 4)) by omega)]
        generalize hτ4 : zwI τ3 0 61 (7 + 5 * k + 0) (iI (x.1 (7 + 5 * k + 0))) = τ4 at hS3 hs
        have f4 : zFr WM σ τ4 := by
          subst hτ4
          exact zFr_tt (zFr_tt (zFr_tt f (zFr_w (by omega))) (zFr_i g2 fun _ _ _ q => by omega)) (zFr_w (by omega))
        have ih' := ih (k + 1) τ4 none (by omega) f4 hS3
        by_cases q : (aPp x.1 k).1 < aTot (zup x.1 (7 + 5 * k + 0) 4)
        · rw [if_pos q] at e
          rw [e] at ih'
          rw [if_pos q, ez_200_90, hs, if_pos (by rw [iI_lt (by omega) (by omega)]; exact q), hki1]
          exact ih'
        · rw [if_neg q] at e
          rw [e] at ih'
          rw [if_neg q, ez_200_90, hs, if_neg (by rw [iI_lt (by omega) (by omega)]; exact q), hki1]
          exact ih'
    exact key ((x.1 0).toNat) 0 τ none (by omega) (zFr_i c2 fun _ _ _ q => by omega) c3
def zCall2 (J J2 : Nat) (as : List zV) (x : zXx) : Prop := ∃ x' v v2, WX x' ∧ zCl1 J as x x' v ∧ zMl1 J2 as x x' v2
theorem aLd_n {S : zS} {f : Nat → Int} {z w : Int} : aLd S (aLd S f z w) z (-w) = f := funext fun u => by
  unfold aLd
  cases aAbI S z u
  · rw [cond_false, cond_false]; omega
  · rw [cond_true, cond_true]; omega
theorem aLd_r {S : zS} {f : Nat → Int} {z w : Int} (hf : ∀ b, b < (S 0).toNat → -50000 ≤ f b ∧ f b ≤ 50000) (hw : -1000 ≤ w ∧ w ≤ 1000) : fR S (aLd S f z w) := fun b hb => by
  have h := hf b hb
  unfold aLd
  cases aAbI S z b
  · rw [cond_false]; omega
  · rw [cond_true]; omega
theorem aSp_r5 {S : zS} (w : wA S) : ∀ b, b < (S 0).toNat → -50000 ≤ aSp S b ∧ aSp S b ≤ 50000 := by
  intro b hb
  have h1 := aBear_b w.1 w.2.1 w.2.2.1 hb
  have h2 := aHold_b w.1 w.2.1 w.2.2.2.2.1 hb
  unfold aSp
  omega
theorem zc28n {d g b : Nat} {S : zS} {σ : zM} {f : Nat → Int} {x : Int} (hB : cB g S σ) (w : wB S) (hs : cS g S f σ) (hb : b < (S 0).toNat) : ∃ τ, zev (d + 3) 28 [.inr (.inr (g, 0)), .inl (iI b), .inl (iI x)] σ = some (0, 0, τ) ∧ zFr (Wk g 22) σ τ ∧ cS g S (aLd S f b x) τ := by
  have h := zc28 (d := d) (z := b) (x := x) hB w hs ⟨by omega, by omega⟩
  rwa [show cE (b : Int) = b from if_neg (by omega)] at h
