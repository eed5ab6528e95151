/-! act -/
def wI (t : zXt) : Prop := ∀ i, i < t.1 → zrn (t.2 i)
theorem tSw_w {k : Int} {pt : Bool} {t : zXt} (h : wI t) : wI (tSw k pt t) := by
  unfold tSw
  refine aBg_w ?_ (by decide)
  split
  · exact aBg_w h (by decide)
  · split
    · exact aBg_w h (by decide)
    · exact h
theorem tBd_w {k : Int} {pt : Bool} {t : zXt} (h : wI t) : wI (tBd k pt t) := by
  unfold tBd
  refine tSw_w (aBg_w ?_ (by decide))
  split
  · exact aBg_w h (by decide)
  · split
    · exact aBg_w h (by decide)
    · exact h
theorem tSh_w {k n a : Int} {pt : Bool} {t : zXt} (h : wI t) : wI (tSh k n a pt t) := by
  unfold tSh
  split
  · exact aBg_w (aBg_w h (by decide)) (by decide)
  · split
    · exact tSw_w (aBg_w (aBg_w (aBg_w h (by decide)) (by decide)) (by decide))
    · exact aBg_w h (by decide)
theorem tTl_w {k n a : Int} {pt : Bool} {t : zXt} (h : wI t) : wI (tTl k n a pt t) := by
  unfold tTl
  split
  · exact tSh_w (tBd_w (aBg_w (aBg_w h (by decide)) (by decide)))
  · exact tBd_w (aBg_w h (by decide))
theorem tTl_l {k n a : Int} {pt : Bool} {t : zXt} : (tTl k n a pt t).1 ≤ t.1 + 11 := by
  unfold tTl
  split
  · have l1 := aBg_l (pt := pt) (t := t) (b := 51)
    have l2 := aBg_l (pt := pt) (t := aBg pt t 51) (b := 13)
    have l3 := tBd_l (k := k) (pt := pt) (t := aBg pt (aBg pt t 51) 13)
    have l4 := tSh_l (k := k) (n := n) (a := a) (pt := pt) (t := tBd k pt (aBg pt (aBg pt t 51) 13))
    omega
  · have l1 := aBg_l (pt := pt) (t := t) (b := 13)
    have l3 := tBd_l (k := k) (pt := pt) (t := aBg pt t 13)
    omega
def xsa (x : zXx) (t : zXt) : zXx := (x.1, x.2.1, x.2.2.1, x.2.2.2.1, x.2.2.2.2.1, x.2.2.2.2.2.1, t)
theorem WX_a {x : zXx} {t : zXt} (w : WX x) (h : t.1 ≤ 30) (h2 : wI t) : WX (xsa x t) := ⟨w.1, w.2.1, w.2.2.1, w.2.2.2.1, w.2.2.2.2.1, ⟨h, h2⟩, w.2.2.2.2.2.2⟩
theorem RC_a {x : zXx} {t : zXt} {σ τ : zM} (h : RC x σ) (f : zFr WA σ τ) (hh : cAc t τ) : RC (xsa x t) τ := by
  obtain ⟨h1, h2, h3, h4, h5, h6⟩ := h
  have e : ∀ g k, ¬ (g = 0 ∧ (k = 49 ∨ k = 50)) → τ.1 g k = σ.1 g k := fun g k hk => zFr_f f (fun i => hk)
  exact ⟨cA_c h1 (fun k a b c d => e 0 k (by omega)) (by rw [e 0 19 (by omega)]), cKe_f (x := x) h2 (by rw [e 0 30 (by omega)]) (fun k hk => e 2 k (by omega)), cTp_f h3 (by rw [e 0 31 (by omega)]) (e 0 32 (by omega)), cRo_f h4 (by rw [e 0 38 (by omega)]) (fun k => e k 40 (by omega)), cHo_f h5 (fun k a b => e 0 k (by omega)) f.2, hh⟩
abbrev WBa : Nat → Nat → Nat → Prop := fun g k i => g = 0 ∧ ((k = 60 ∧ 32 ≤ i ∧ i ≤ 36) ∨ k = 79)
theorem RM_a {x : zXx} {t : zXt} {σ τ : zM} (h : RM x σ) (f : zFr WBa σ τ) (hh : mAc t τ) : RM (xsa x t) τ := by
  obtain ⟨h1, h2, h3, h4, h5, h6⟩ := h
  have e : ∀ k, k ≠ 60 → k ≠ 79 → τ.1 0 k = σ.1 0 k := fun k a b => zFr_f f (fun i => by omega)
  exact ⟨mS_f h1 (e 61 (by decide) (by decide)), mKe_f (x := x) h2 (f.1 _ _ _ (by omega)) (e 62 (by decide) (by decide)), mTp_f h3 (f.1 _ _ _ (by omega)) (e 72 (by decide) (by decide)), mRo_f h4 (f.1 _ _ _ (by omega)) (e 71 (by decide) (by decide)), mHo_f h5 (fun k a b => e k (by omega) (by omega)), hh⟩
def tAc (c k n a : Int) (t : zXt) : zXt := if c = 0 then tSw k false t else if c = 1 then tBd k false t else if c = 2 then tSh k n a false t else tTl k n a false t
def pAc (c k n a : Int) : Bool := if c = 0 then false else if c = 1 then false else if c = 2 then pPs n a false else pTl k n a false
def vAc (c k n a : Int) (y : Int32) : Int32 := if c = 0 then vSw k n y else if c = 1 then vBd k n a y else if c = 2 then vSh k n a y else vTl k n a y
theorem zx_134 {x : zXx} (w : WX x) (p c y : Int) (hp : zrn p) (hc : zrn c) : zCall 134 265 [.inl (iI p), .inl (iI c), .inl (iI y)] x := by
  let t0 : zXt := (0, (xa x).2)
  have ht0 : wI t0 := fun i hi => absurd hi (Nat.not_lt_zero i)
  have w0 : WX (xsa x t0) := WX_a w (Nat.zero_le _) ht0
  have r0 : ∀ {σ}, RC x σ → RC (xsa x t0) (zwI σ 0 49 0 0) := fun {σ} h => RC_a h (zFr_w (by omega)) ⟨zfs, fun i hi => absurd hi (Nat.not_lt_zero i)⟩
  have m0 : ∀ {σ}, RM x σ → RM (xsa x t0) (zwI (zwI σ 0 60 32 0) 0 60 36 0) := fun {σ} h => RM_a h (zFr_tt (zFr_w (by omega)) (zFr_w (by omega))) ⟨by rw [zfe (by omega), zfs]; rfl, fun i hi => absurd hi (Nat.not_lt_zero i)⟩
  have c141 : ∀ {σ : zM}, zev 63 141 [.inl (iI c), .inl 0, .inl 3] σ = some (zB (decide (0 ≤ c ∧ c ≤ 3)), 0, σ) := zc141 (l := 0) (h := 3) hc (by decide) (by decide)
  have m149 : ∀ {σ : zM}, zev 63 149 [.inr (.inl (Int32.toInt64 (iI c))), .inr (.inl 0), .inr (.inl 3)] σ = some (zB (decide (0 ≤ c ∧ c ≤ 3)), 0, σ) := zm149k (l := 0) (h := 3) hc (by decide) (by decide)
  have m1 : ∀ {σ : zM}, RM x σ → zev 63 257 [.inr (.inr (0, 60)), .inl (iI p)] (zwI (zwI σ 0 60 32 0) 0 60 36 0) = some (iI (if 0 ≤ p ∧ p ≤ 3 then aOn x p.toNat else -1), 0, zwI (zwI σ 0 60 32 0) 0 60 36 0) := fun {σ} h => zm257 (d := 60) w (m0 h).1 (m0 h).2.2.2.2.1 hp
  have m33 : ∀ {σ : zM} {v : Int32}, RM x σ → RM (xsa x t0) (zwI (zwI (zwI σ 0 60 32 0) 0 60 36 0) 0 60 33 v) := fun {σ v} h => RM_a h (zFr_tt (zFr_tt (zFr_w (by omega)) (zFr_w (by omega))) (zFr_w (by omega))) ⟨by rw [zfe (by omega), zfe (by omega), zfs]; rfl, fun i hi => absurd hi (Nat.not_lt_zero i)⟩
  by_cases q1 : 0 ≤ p ∧ p ≤ 3
  case neg =>
    refine ⟨xsa x t0, 0, w0, fun σ h => ?_, fun σ h => ?_⟩
    · rw [ez_134]
      simp only [zc144 (d := 61) hp, zbs, zBi, decide_eq_false q1, cond_false]
      exact ⟨0, _, rfl, r0 h⟩
    · rw [ez_265]
      simp only [zgd_t (show z01 0 = true from rfl), m1 h, zbs, if_neg q1, zfs]
      rw [if_pos (by decide)]
      exact ⟨0, _, rfl, m33 h⟩
  obtain ⟨j, rfl⟩ := zint q1.1
  have hj : j < 4 := by omega
  have ho := aOn_r w hj
  have b0 := w.1.1.1
  have b1 := w.1.1.2.1
  by_cases q2 : 0 ≤ c ∧ c ≤ 3
  case neg =>
    refine ⟨xsa x t0, 0, w0, fun σ h => ?_, fun σ h => ?_⟩
    · rw [ez_134]
      simp only [zc144 (d := 61) hp, zbs, zBi, decide_eq_true q1, cond_true, c141, decide_eq_false q2, cond_false]
      exact ⟨0, _, rfl, r0 h⟩
    · rw [ez_265]
      simp only [zgd_t (show z01 0 = true from rfl), m1 h, zbs, if_pos q1, zfs, Int.toNat_natCast, iI_lt0 (show zrn (aOn x j) by omega), m149, zBi, decide_eq_false q2, cond_false]
      split
      · exact ⟨0, _, rfl, m33 h⟩
      · exact ⟨0, _, rfl, m33 h⟩
  by_cases q3 : aOn x j < 0
  · refine ⟨xsa x t0, 0, w0, fun σ h => ?_, fun σ h => ?_⟩
    · have c9 : iI (cE (aOn x j)) = -9 := by rw [show cE (aOn x j) = -9 from if_pos q3]; decide
      rw [ez_134]
      simp only [zc144 (d := 61) hp, zbs, zBi, decide_eq_true q1, cond_true, c141, decide_eq_true q2, zc137 (d := 61) w0 (r0 h) hj, show aOn (xsa x t0) j = aOn x j from rfl, c9, if_true]
      exact ⟨0, _, rfl, r0 h⟩
    · rw [ez_265]
      simp only [zgd_t (show z01 0 = true from rfl), m1 h, zbs, if_pos q1, zfs, Int.toNat_natCast, iI_lt0 (show zrn (aOn x j) by omega), if_pos q3]
      exact ⟨0, _, rfl, m33 h⟩
  obtain ⟨b, hb⟩ := zint (show 0 ≤ aOn x j by omega)
  have hb9 : b < (x.1 0).toNat := by omega
  have wb := w.1.1.2.2 b hb9
  have hk : 1 ≤ x.1 (7 + 5 * b) ∧ x.1 (7 + 5 * b) ≤ 5 := ⟨wb.1, wb.2.1⟩
  have hn : zrn (b : Int) := by omega
  have ha : zrn (x.1 (9 + 5 * b)) := by omega
  have hd : zrn (x.1 (9 + 5 * b) - (b : Int)) := by omega
  have l0 : t0.1 = 0 := rfl
  refine ⟨xsa x (tAc c (x.1 (7 + 5 * b)) b (x.1 (9 + 5 * b)) t0), if pAc c (x.1 (7 + 5 * b)) b (x.1 (9 + 5 * b)) = false then vAc c (x.1 (7 + 5 * b)) b (x.1 (9 + 5 * b)) (iI y) else -15, WX_a w ?_ ?_, fun σ h => ?_, fun σ h => ?_⟩
  · unfold tAc
    have l1 := tSw_l (k := x.1 (7 + 5 * b)) (pt := false) (t := t0)
    have l2 := tBd_l (k := x.1 (7 + 5 * b)) (pt := false) (t := t0)
    have l3 := tSh_l (k := x.1 (7 + 5 * b)) (n := b) (a := x.1 (9 + 5 * b)) (pt := false) (t := t0)
    have l4 := tTl_l (k := x.1 (7 + 5 * b)) (n := b) (a := x.1 (9 + 5 * b)) (pt := false) (t := t0)
    split
    · omega
    · split
      · omega
      · split <;> omega
  · unfold tAc
    split
    · exact tSw_w ht0
    · split
      · exact tBd_w ht0
      · split
        · exact tSh_w ht0
        · exact tTl_w ht0
  · have c9 : ¬ iI (cE (aOn x j)) = -9 := by
      rw [show cE (aOn x j) = aOn x j from if_neg q3, show (-9 : Int32) = iI (-9) by decide, iI_eq (by omega) (by decide)]; omega
    have hA := (r0 h).1
    have cB := hA.1.2 b hb9
    have hgb : ∀ {y : zR}, zgd (zin (iI b) 9) y = y := fun {y} => zgd_t (iI_ink (z := b) (k := b) rfl (by omega) (by decide))
    have hNb : Int32.toNatClampNeg (iI b) = b := iI_Nn (by omega)
    have cB1 : (zwI σ 0 49 0 0).1 0 2 b = iI (x.1 (7 + 5 * b)) := cB.1
    have cB3 : (zwI σ 0 49 0 0).1 0 4 b = iI (x.1 (9 + 5 * b)) := cB.2.2.1
    have e0 : zev 63 0 [.inr (.inr (0, 49)), .inl (iI (x.1 (7 + 5 * b))), .inl (iI b), .inl (iI (x.1 (9 + 5 * b)))] (zwI σ 0 49 0 0) = some (0, 0, zwI (zwI (zwI (zwI (zwI σ 0 49 0 0) 0 49 3 (iI (x.1 (7 + 5 * b)))) 0 49 4 (iI b)) 0 49 5 (iI (x.1 (9 + 5 * b)))) 0 49 2 0) := by
      rw [ez_0, zgd_t (show z01 0 = true from rfl)]
    generalize hσ' : zwI (zwI (zwI (zwI (zwI σ 0 49 0 0) 0 49 3 (iI (x.1 (7 + 5 * b)))) 0 49 4 (iI b)) 0 49 5 (iI (x.1 (9 + 5 * b)))) 0 49 2 0 = σ' at e0
    have fr : zFr WA σ σ' := by rw [← hσ']; exact zFr_tt (zFr_tt (zFr_tt (zFr_tt (zFr_w (by omega)) (zFr_w (by omega))) (zFr_w (by omega))) (zFr_w (by omega))) (zFr_w (by omega))
    have Q0 : cQ t0 false (x.1 (7 + 5 * b)) b (x.1 (9 + 5 * b)) σ' := by
      rw [← hσ']
      exact ⟨⟨by rw [zfe (by omega), zfe (by omega), zfe (by omega), zfe (by omega), zfs]; rfl, fun i hi => absurd hi (Nat.not_lt_zero i)⟩, by rw [zfs]; rfl, by rw [zfe (by omega), zfe (by omega), zfe (by omega), zfs], by rw [zfe (by omega), zfe (by omega), zfs], by rw [zfe (by omega), zfs]⟩
    rw [ez_134]
    simp only [zc144 (d := 61) hp, zbs, zBi, decide_eq_true q1, cond_true, c141, decide_eq_true q2, zc137 (d := 61) w0 (r0 h) hj, show aOn (xsa x t0) j = aOn x j from rfl, if_neg c9]
    rw [show cE (aOn x j) = aOn x j from if_neg q3]
    simp only [hb, hgb, hNb, cB1, cB3, e0, zbs]
    have fin : ∀ (v : Int32) (p' : Bool) (t' : zXt) (τ : zM), zFr WA σ' τ → cQ t' p' (x.1 (7 + 5 * b)) b (x.1 (9 + 5 * b)) τ → ∃ w τ', (if τ.1 0 49 2 = 0 then some (v, (0 : Int64), τ) else some (-15, 0, τ)) = some (if p' = false then v else -15, w, τ') ∧ RC (xsa x t') τ' := by
      intro v p' t' τ g2 g3
      rw [g3.2.1]
      simp only [zBi]
      refine ⟨0, τ, ?_, RC_a h (zFr_tt fr g2) g3.1⟩
      cases p' <;> rfl
    rcases (by omega : c = 0 ∨ c = 1 ∨ c = 2 ∨ c = 3) with rfl | rfl | rfl | rfl
    · obtain ⟨τ, g1, g2, g3⟩ := zc2 (d := 60) (x := iI y) hk Q0 (by omega)
      rw [if_pos (show iI 0 = 0 from rfl), g1]
      exact fin _ _ _ τ g2 g3
    · obtain ⟨τ, g1, g2, g3⟩ := zc3 (d := 58) (x := iI y) hk Q0 (by omega)
      rw [if_neg (show ¬ iI 1 = 0 by decide), if_pos (show iI 1 = 1 from rfl), g1]
      exact fin _ _ _ τ g2 g3
    · obtain ⟨τ, g1, g2, g3⟩ := zc4 (d := 59) (x := iI y) hk hn ha hd Q0 (by omega)
      rw [if_neg (show ¬ iI 2 = 0 by decide), if_neg (show ¬ iI 2 = 1 by decide), if_pos (show iI 2 = 2 from rfl), g1]
      exact fin _ _ _ τ g2 g3
    · obtain ⟨τ, g1, g2, g3⟩ := zc5 (d := 56) (x := iI y) hk hn ha hd Q0 (by omega)
      rw [if_neg (show ¬ iI 3 = 0 by decide), if_neg (show ¬ iI 3 = 1 by decide), if_neg (show ¬ iI 3 = 2 by decide), g1]
      exact fin _ _ _ τ g2 g3
  · have hN : Int32.toNatClampNeg (iI j) = j := iI_Nn (by omega)
    have hm : ∀ (w : Nat) (τ : zM), w < 5 → mS 61 x.1 τ → zev 63 156 [.inr (.inr (0, 60)), .inl (iI b), .inl (iI w)] τ = some (iI (x.1 (7 + 5 * b + w)), 0, τ) := fun w τ hw hS => zm156 (d := 61) hS (by omega)
    generalize hσ1 : zwI (zwI σ 0 60 32 0) 0 60 36 0 = σ1
    have e1 := m1 h
    rw [hσ1, if_pos q1, Int.toNat_natCast, hb] at e1
    have s1 : ∀ {v u : Int32}, mS 61 x.1 (zwI (zwI σ1 0 60 33 v) 0 60 34 u) := fun {v u} => by rw [← hσ1]; exact mS_f h.1 (by rw [zfn (by omega), zfn (by omega), zfn (by omega), zfn (by omega)])
    have s0 : ∀ {v : Int32}, mS 61 x.1 (zwI σ1 0 60 33 v) := fun {v} => by rw [← hσ1]; exact mS_f h.1 (by rw [zfn (by omega), zfn (by omega), zfn (by omega)])
    have e2 : zev 63 156 [.inr (.inr (0, 60)), .inl (iI b), .inl 2] (zwI σ1 0 60 33 (iI b)) = some (iI (x.1 (9 + 5 * b)), 0, zwI σ1 0 60 33 (iI b)) := by
      have := hm 2 _ (by omega) (s0 (v := iI b))
      rw [show 7 + 5 * b + 2 = 9 + 5 * b by omega] at this
      exact this
    have e3 : zev 63 156 [.inr (.inr (0, 60)), .inl (iI b), .inl 0] (zwI (zwI σ1 0 60 33 (iI b)) 0 60 34 (iI (x.1 (9 + 5 * b)))) = some (iI (x.1 (7 + 5 * b)), 0, zwI (zwI σ1 0 60 33 (iI b)) 0 60 34 (iI (x.1 (9 + 5 * b)))) := hm 0 _ (by omega) s1
    rw [ez_265]
    simp only [zgd_t (show z01 0 = true from rfl)]
    rw [hσ1]
    simp only [e1, zbs, zfs, iI_lt0 (show zrn (b : Int) by omega)]
    rw [if_neg (by omega)]
    simp only [m149, zbs, zBi, decide_eq_true q2, cond_true, zfs, e2, zfe (show ¬ (0 = 0 ∧ 60 = 60 ∧ 33 = 34) by omega), e3]
    generalize hσ' : zwI (zwI (zwI σ1 0 60 33 (iI b)) 0 60 34 (iI (x.1 (9 + 5 * b)))) 0 60 35 (iI (x.1 (7 + 5 * b))) = σ'
    have fr : zFr WBa σ σ' := by rw [← hσ', ← hσ1]; exact zFr_tt (zFr_tt (zFr_tt (zFr_tt (zFr_w (by omega)) (zFr_w (by omega))) (zFr_w (by omega))) (zFr_w (by omega))) (zFr_w (by omega))
    have Q0 : mQ t0 false (x.1 (7 + 5 * b)) b (x.1 (9 + 5 * b)) σ' := by
      rw [← hσ', ← hσ1]
      exact ⟨⟨by rw [zfe (by omega), zfe (by omega), zfe (by omega), zfe (by omega), zfs]; rfl, fun i hi => absurd hi (Nat.not_lt_zero i)⟩, by rw [zfe (by omega), zfe (by omega), zfe (by omega), zfs]; rfl, by rw [zfs], by rw [zfe (by omega), zfe (by omega), zfs], by rw [zfe (by omega), zfs]⟩
    have fin : ∀ (v u : Int32) (p' : Bool) (t' : zXt) (τ : zM), (p' = false → v = u) → zFr WB σ' τ → mQ t' p' (x.1 (7 + 5 * b)) b (x.1 (9 + 5 * b)) τ → ∃ w τ', (if τ.1 0 60 36 = 0 then some (v, (0 : Int64), τ) else some (-15, 0, τ)) = some (if p' = false then u else -15, w, τ') ∧ RM (xsa x t') τ' := by
      intro v u p' t' τ e g2 g3
      rw [g3.2.1]
      simp only [zBi]
      refine ⟨0, τ, ?_, RM_a h (zFr_tt fr (zFr_i g2 fun _ _ _ q => by omega)) g3.1⟩
      cases p'
      · rw [e rfl]; rfl
      · rfl
    rcases (by omega : c = 0 ∨ c = 1 ∨ c = 2 ∨ c = 3) with rfl | rfl | rfl | rfl
    · obtain ⟨τ, g1, g2, g3⟩ := zm260 (d := 61) (x := iI y) hk Q0 (by omega)
      rw [if_pos (show iI 0 = 0 from rfl), g1]
      exact fin _ _ _ _ τ (fun _ => rfl) g2 g3
    · obtain ⟨τ, g1, g2, g3⟩ := zm261 (d := 60) (x := iI y) hk Q0 (by omega)
      rw [if_neg (show ¬ iI 1 = 0 by decide), if_pos (show iI 1 = 1 from rfl), g1]
      exact fin _ _ _ _ τ (fun _ => rfl) g2 g3
    · obtain ⟨v, τ, g1, g0, g2, g3⟩ := zm263 (d := 60) (x := iI y) hk hn ha hd Q0 (by omega)
      rw [if_neg (show ¬ iI 2 = 0 by decide), if_neg (show ¬ iI 2 = 1 by decide), if_pos (show iI 2 = 2 from rfl), g1]
      exact fin _ _ _ _ τ g0 g2 g3
    · obtain ⟨v, τ, g1, g0, g2, g3⟩ := zm264 (d := 59) (x := iI y) hk hn ha hd Q0 (by omega)
      rw [if_neg (show ¬ iI 3 = 0 by decide), if_neg (show ¬ iI 3 = 1 by decide), if_neg (show ¬ iI 3 = 2 by decide), g1]
      exact fin _ _ _ _ τ g0 g2 g3
