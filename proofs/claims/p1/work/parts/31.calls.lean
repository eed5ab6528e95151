/-! calls: what cracks -/
theorem zFr_WC0 {σ τ : zM} (f : zFr (Ws 0) σ τ) : zFr WC σ τ := zFr_i f fun _ _ _ q => by omega
theorem zm166c {d : Nat} {S : zS} {σ : zM} (hS : mS 61 S σ) (wa : wA S) : ∃ τ, zev (d + 6) 166 [.inr (.inr (0, 60))] σ = some (0, 0, τ) ∧ zFr WM σ τ ∧ mS 61 S τ ∧ mR 65 S (aHold S) τ := by
  obtain ⟨τ, c1, c2, c3⟩ := zm166 (d := d) hS wa.1 wa.2.1 wa.2.2.2.2.1
  exact ⟨τ, c1, zFr_i c2 fun _ _ _ q => by omega, mS_g hS c2 (fun i => by omega), c3⟩
theorem zm170 {d : Nat} {S : zS} {σ : zM} (hS : mS 61 S σ) (wa : wA S) (hh : mR 65 S (aHold S) σ) : ∃ τ, zev (d + 7) 170 [.inr (.inr (0, 60))] σ = some (zcr (aCr S (aSp S)) ((S 0).toNat), 0, τ) ∧ zFr (Wk 0 66) σ τ := by
  obtain ⟨τ, c1, c2, c3⟩ := zm168 (d := d) hS wa.1 wa.2.1 wa.2.2.1
  rw [ez_170]
  simp only [c1, zbs]
  exact ⟨τ, zm170_8 (d := d + 2) (mS_g hS c2 (fun i => by omega)) wa.1 (mF_sp wa (mR_f hh (zFr_f c2 (fun i => by omega))) c3), c2⟩
theorem zm172 {d : Nat} {S : zS} {σ : zM} (hS : mS 61 S σ) (wa : wA S) : ∃ τ, zev (d + 7) 172 [.inr (.inr (0, 60))] σ = some (0, 0, τ) ∧ zFr WM σ τ ∧ mS 61 S τ ∧ mR 65 S (aHold S) τ ∧ mR 66 S (aBear S) τ := by
  obtain ⟨τ, c1, c2, c3, c4⟩ := zm166c (d := d) hS wa
  obtain ⟨τ1, b1, b2, b3⟩ := zm168 (d := d) c3 wa.1 wa.2.1 wa.2.2.1
  rw [ez_172]
  simp only [c1, b1, zbs]
  exact ⟨τ1, rfl, zFr_tt c2 (zFr_i b2 fun _ _ _ q => by omega), mS_g c3 b2 (fun i => by omega), mR_f c4 (zFr_f b2 (fun i => by omega)), b3⟩
theorem zx_95 {x : zXx} (w : WX x) : zCall 95 186 [] x := by
  refine zCq (zcr (aCr x.1 (aSp x.1)) ((x.1 0).toNat)) w (fun σ h => ?_) (fun σ h => ?_)
  · obtain ⟨τ, c1, c2, c3⟩ := zc27 (d := 58) h.1 w.1
    have hA := cA_s h.1 c2
    rw [ez_95]
    simp only [c1, zbs, zc29 (d := 60) hA.1 hA.2.1 w.1.1 c3 (aSp_r w.1)]
    exact ⟨τ, rfl, zFr_WC0 c2⟩
  · obtain ⟨τ, c1, c2, c3, c4⟩ := zm166c (d := 57) h.1 w.1
    obtain ⟨τ1, b1, b2⟩ := zm170 (d := 56) c3 w.1 c4
    rw [ez_186]
    simp only [c1, b1, zbs]
    exact ⟨τ1, rfl, zFr_tt c2 (zFr_i b2 fun _ _ _ q => by omega), mS_g c3 b2 (fun i => by omega)⟩
theorem zx_96 {x : zXx} (w : WX x) : zCall 96 188 [] x := by
  have hl := aLst_r (S := x.1) (f := aSp x.1) ((x.1 0).toNat)
  have b1 := w.1.1.2.1
  refine zCq (if aLst x.1 (aSp x.1) ((x.1 0).toNat) < 0 then -3 else iI (aLst x.1 (aSp x.1) ((x.1 0).toNat))) w (fun σ h => ?_) (fun σ h => ?_)
  · obtain ⟨τ, c1, c2, c3⟩ := zc27 (d := 58) h.1 w.1
    have hA := cA_s h.1 c2
    have hcz : zrn (cE (aLst x.1 (aSp x.1) ((x.1 0).toNat))) := by unfold cE; split <;> omega
    rw [ez_96]
    simp only [c1, zbs, zc31 (d := 60) hA.1 hA.2.1 w.1.1 c3 (aSp_r w.1), iI_n9 hcz]
    refine ⟨τ, ?_, zFr_WC0 c2⟩
    by_cases q : aLst x.1 (aSp x.1) ((x.1 0).toNat) < 0
    · rw [if_pos (show cE _ = -9 from if_pos q), if_pos q]
    · have hce : cE (aLst x.1 (aSp x.1) ((x.1 0).toNat)) = aLst x.1 (aSp x.1) ((x.1 0).toNat) := if_neg q
      rw [hce, if_neg (by omega), if_neg q]
  · obtain ⟨τ, c1, c2, c3, c4⟩ := zm166c (d := 57) h.1 w.1
    obtain ⟨τ1, b1, b2, b3⟩ := zm187 (d := 56) c3 w.1 c4
    rw [ez_188]
    simp only [c1, b1, zbs, iI_lt0 (show zrn (aLst x.1 (aSp x.1) ((x.1 0).toNat)) by omega)]
    refine ⟨τ1, ?_, zFr_tt c2 (zFr_i b2 fun _ _ _ q => by omega), mS_g c3 b2 (fun i => by omega)⟩
    by_cases q : aLst x.1 (aSp x.1) ((x.1 0).toNat) < 0
    · rw [if_pos q, if_pos q]
    · rw [if_neg q, if_neg q]
theorem zx_97 {x : zXx} (w : WX x) : zCall 97 191 [] x := by
  refine zCs (aFl 9 x.1).1 (iI (aFl 9 x.1).2) w (wA_fl 9 w.1) (wK_fl 9 w.1 w.2.2.2.2.2.2.1) (fun σ h => ?_) (fun σ h => ?_)
  · obtain ⟨τ, c1, c2, c3⟩ := zc33 (d := 57) w.1 h.1
    rw [ez_97]
    simp only [c1, zbs]
    exact ⟨τ, rfl, zFr_i c2 fun _ _ _ q => by omega, c3⟩
  · obtain ⟨τ, c1, c2, c3⟩ := zm190 (d := 55) h.1 w.1
    rw [ez_191]
    simp only [c1, zbs]
    exact ⟨τ, rfl, zFr_i c2 fun _ _ _ q => by omega, c3⟩
theorem zx_98 {x : zXx} (w : WX x) : zCall 98 192 [] x := by
  refine zCq (iI (aFl 9 x.1).2) w (fun σ h => ?_) (fun σ h => ?_)
  · obtain ⟨τ, c1, c2, c3⟩ := zc25 (d := 58) (g := 1) (by decide) w.1 h.1
    obtain ⟨τ1, b1, b2, b3⟩ := zc33 (d := 57) w.1 c3
    rw [ez_98]
    simp only [c1, b1, zbs]
    exact ⟨τ1, rfl, zFr_tt (zFr_i c2 fun _ _ _ q => by omega) (zFr_i b2 fun _ _ _ q => by omega)⟩
  · obtain ⟨τ, a1, a2, a3⟩ := zm153 (d := 62) h.1
    obtain ⟨τ1, b1, b2, b3⟩ := zm190 (d := 55) (mS_g h.1 a2 (fun i => by omega)) w.1
    obtain ⟨τ2, c1, c2, c3⟩ := zm154 (d := 62) (mS_f a3 (zFr_f b2 (fun i => by omega)) : mS 63 x.1 τ1)
    rw [ez_192]
    simp only [a1, b1, c1, zbs]
    exact ⟨τ2, rfl, zFr_tt (zFr_i a2 fun _ _ _ q => by omega) (zFr_tt (zFr_i b2 fun _ _ _ q => by omega) (zFr_i c2 fun _ _ _ q => by omega)), c3⟩
/-- a number that isn't within bounds; a range test of the reference -/
theorem zm149k {d : Nat} {z : Int} {l h : Nat} {σ : zM} (hz : zrn z) (hl : l ≤ 9999) (hh : h ≤ 9999) : zev (d + 1) 149 [.inr (.inl (Int32.toInt64 (iI z))), .inr (.inl (Int64.ofNat l)), .inr (.inl (Int64.ofNat h))] σ = some (zB (decide ((l : Int) ≤ z ∧ z ≤ h)), 0, σ) := by
  rw [zm149 hz, Int64.toInt_ofNat_of_lt (by omega), Int64.toInt_ofNat_of_lt (by omega)]
theorem zc143 {d : Nat} {z : Int} {σ : zM} (hz : zrn z) : zev (d + 1) 143 [.inl (iI z)] σ = some (zB (decide (0 ≤ z ∧ z ≤ 1)), 0, σ) := by
  rw [F143, zrg_B, t_iI hz]
theorem zx_99 {x : zXx} (w : WX x) (z : Int) (hz : zrn z) : zCall 99 194 [.inl (iI z)] x := by
  have wf := wA_fl 9 w.1
  have e1 : ∀ {d : Nat} {σ : zM}, zev (d + 1) 149 [.inr (.inl (Int32.toInt64 (iI z))), .inr (.inl 0), .inr (.inl 1)] σ = some (zB (decide (0 ≤ z ∧ z ≤ 1)), 0, σ) := fun {d σ} => zm149k (l := 0) (h := 1) hz (by decide) (by decide)
  refine zCq (if 0 ≤ z ∧ z ≤ 1 then iI (aStd (aFl 9 x.1).1 z (((aFl 9 x.1).1 2).toNat)) else -1) w (fun σ h => ?_) (fun σ h => ?_)
  · rw [ez_99]
    simp only [zc143 hz, zbs, zBi]
    by_cases q : 0 ≤ z ∧ z ≤ 1
    · rw [decide_eq_true q, if_pos q]
      obtain ⟨τ, c1, c2, c3⟩ := zc25 (d := 58) (g := 1) (by decide) w.1 h.1
      obtain ⟨τ1, b1, b2, b3⟩ := zc33 (d := 57) w.1 c3
      simp only [cond_true, c1, b1, zbs, zc38 (d := 62) b3.2.2.2.1 wf.1 wf.2.2.1 q]
      exact ⟨τ1, rfl, zFr_tt (zFr_i c2 fun _ _ _ q => by omega) (zFr_i b2 fun _ _ _ q => by omega)⟩
    · rw [decide_eq_false q, if_neg q]
      exact ⟨σ, rfl, zFr_r σ⟩
  · rw [ez_194]
    simp only [e1, zbs, zBi]
    by_cases q : 0 ≤ z ∧ z ≤ 1
    · rw [decide_eq_true q, if_pos q]
      obtain ⟨n, rfl⟩ := zint q.1
      obtain ⟨τ, c1, c2, c3, c4⟩ := zm193 (d := 54) h.1 w.1
      simp only [cond_true, c1, zbs, zgd_t (iI_ink (z := n) (k := n) rfl (show n < 2 by omega) (by decide)), iI_Nn (show n ≤ 2147483647 by omega), c4 n (by omega)]
      exact ⟨τ, rfl, zFr_i c2 fun _ _ _ q => by omega, c3⟩
    · rw [decide_eq_false q, if_neg q]
      exact ⟨σ, rfl, zFr_r σ, h.1⟩
theorem zx_100 {x : zXx} (w : WX x) : zCall 100 195 [] x := by
  have wf := wA_fl 9 w.1
  have p1 := wf.2.2.1.2.1
  have s0 := aStd_b (x := 0) wf.2.2.1 (((aFl 9 x.1).1 2).toNat) (Nat.le_refl _)
  have s1 := aStd_b (x := 1) wf.2.2.1 (((aFl 9 x.1).1 2).toNat) (Nat.le_refl _)
  generalize hS0 : aStd (aFl 9 x.1).1 0 (((aFl 9 x.1).1 2).toNat) = A at s0
  generalize hS1 : aStd (aFl 9 x.1).1 1 (((aFl 9 x.1).1 2).toNat) = B at s1
  refine zCq (if B < A then 0 else if A < B then 1 else 2) w (fun σ h => ?_) (fun σ h => ?_)
  · obtain ⟨τ, c1, c2, c3⟩ := zc25 (d := 58) (g := 1) (by decide) w.1 h.1
    obtain ⟨τ1, b1, b2, b3⟩ := zc33 (d := 57) w.1 c3
    have e0 : zev 63 38 [.inr (.inr (1, 15)), .inl 0] τ1 = some (iI A, 0, τ1) := by rw [← hS0]; exact zc38 (d := 62) (x := 0) b3.2.2.2.1 wf.1 wf.2.2.1 (by decide)
    have e1 : zev 63 38 [.inr (.inr (1, 15)), .inl 1] τ1 = some (iI B, 0, τ1) := by rw [← hS1]; exact zc38 (d := 62) (x := 1) b3.2.2.2.1 wf.1 wf.2.2.1 (by decide)
    rw [ez_100]
    simp only [c1, b1, e0, e1, zbs, iI_sub, iI_0 (show zrn (A - B) by omega), iI_0lt (show zrn (A - B) by omega)]
    refine ⟨τ1, ?_, zFr_tt (zFr_i c2 fun _ _ _ q => by omega) (zFr_i b2 fun _ _ _ q => by omega)⟩
    by_cases q1 : B < A
    · rw [if_neg (by omega), if_pos (by omega), if_pos q1]
    · by_cases q2 : A < B
      · rw [if_neg (by omega), if_neg (by omega), if_neg q1, if_pos q2]
      · rw [if_pos (by omega), if_neg q1, if_neg q2]
  · obtain ⟨τ, c1, c2, c3, c4⟩ := zm193 (d := 54) h.1 w.1
    have e0 := c4 0 (by decide)
    have e1 := c4 1 (by decide)
    rw [show (((0 : Nat) : Int)) = 0 from rfl, hS0] at e0
    rw [show (((1 : Nat) : Int)) = 1 from rfl, hS1] at e1
    rw [ez_195]
    simp only [c1, zbs, e0, e1, iI_lt (show zrn A by omega) (show zrn B by omega), iI_lt (show zrn B by omega) (show zrn A by omega)]
    refine ⟨τ, ?_, zFr_i c2 fun _ _ _ q => by omega, c3⟩
    by_cases q1 : B < A
    · rw [if_pos q1, if_pos q1]
    · by_cases q2 : A < B
      · rw [if_neg q1, if_neg q1, if_pos q2, if_pos q2]
      · rw [if_neg q1, if_neg q1, if_neg q2, if_neg q2]
theorem zx_101 {x : zXx} (w : WX x) (z : Int) (hz : zrn z) : zCall 101 197 [.inl (iI z)] x := by
  have b0 := w.1.1.1
  have b1 := w.1.1.2.1
  refine zCq (if 0 ≤ z ∧ z < x.1 0 then (if aBrk x.1 z.toNat = true then -4 else iI (aRoom x.1 (aSp x.1) z.toNat)) else -1) w (fun σ h => ?_) (fun σ h => ?_)
  · rw [ez_101]
    simp only [zc13 h.1.1.1 ⟨b0, b1⟩ hz, zbs, zBi, zc14 (d := 61) h.1.1 h.1.2.1 w.1.1 hz]
    by_cases q : 0 ≤ z ∧ z < x.1 0
    · rw [decide_eq_true q, if_pos q]
      obtain ⟨n, rfl⟩ := zint q.1
      simp only [cond_true, Bool.true_and, Int.toNat_natCast]
      cases hk : aBrk x.1 n
      · obtain ⟨τ, c1, c2, c3⟩ := zc27 (d := 58) h.1 w.1
        have hA := cA_s h.1 c2
        simp only [Bool.not_false, cond_true, c1, zbs, zc32 (d := 60) hA.1 w.1.1 c3 (aSp_r w.1) (show n < (x.1 0).toNat by omega)]
        exact ⟨τ, rfl, zFr_WC0 c2⟩
      · exact ⟨σ, rfl, zFr_r σ⟩
    · rw [decide_eq_false q, if_neg q]
      exact ⟨σ, rfl, zFr_r σ⟩
  · rw [ez_197]
    simp only [zm150 (d := 61) h.1 ⟨b0, b1⟩ hz, zbs, zBi]
    by_cases q : 0 ≤ z ∧ z < x.1 0
    · rw [decide_eq_true q, if_pos q]
      obtain ⟨n, rfl⟩ := zint q.1
      have w2 := w.1.1.2.2 n (by omega)
      simp only [cond_true, zm157 (d := 60) h.1 (show n < 9 by omega) (show 0 ≤ x.1 (11 + 5 * n) ∧ x.1 (11 + 5 * n) ≤ 1 by omega), zbs, zBi, Int.toNat_natCast]
      cases hk : aBrk x.1 n
      · obtain ⟨τ, c1, c2, c3, c4, c5⟩ := zm172 (d := 56) h.1 w.1
        simp only [cond_false, c1, zbs, zm196 (d := 59) c3 w.1.1 (mF_sp w.1 c4 c5) (aSp_r w.1) (show n < (x.1 0).toNat by omega)]
        exact ⟨τ, rfl, c2, c3⟩
      · exact ⟨σ, rfl, zFr_r σ, h.1⟩
    · rw [decide_eq_false q, if_neg q]
      exact ⟨σ, rfl, zFr_r σ, h.1⟩
