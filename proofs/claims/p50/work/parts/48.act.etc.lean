def wI (t : zXt) : Prop := ∀ i, i < t.1 → zrn (t.2 i)
theorem tSw_w {k : Int} {pt : Bool} {t : zXt} (h : wI t) : wI (tSw k pt t) := by
  unfold tSw
  refine aBg_w ?_ (by decide)
  split
  · exact aBg_w h (by decide)
  · split
    · exact aBg_w h (by decide)
    · exact h
theorem tBd_w {k : Int} {pt : Bool} {t : zXt} (h : wI t) : wI (tBd k pt t) := by
  unfold tBd
  refine tSw_w (aBg_w ?_ (by decide))
  split
  · exact aBg_w h (by decide)
  · split
    · exact aBg_w h (by decide)
    · exact h
theorem tSh_w {k n a : Int} {pt : Bool} {t : zXt} (h : wI t) : wI (tSh k n a pt t) := by
  unfold tSh
  split
  · exact aBg_w (aBg_w h (by decide)) (by decide)
  · split
    · exact tSw_w (aBg_w (aBg_w (aBg_w h (by decide)) (by decide)) (by decide))
    · exact aBg_w h (by decide)
theorem tTl_w {k n a : Int} {pt : Bool} {t : zXt} (h : wI t) : wI (tTl k n a pt t) := by
  unfold tTl
  split
  · exact tSh_w (tBd_w (aBg_w (aBg_w h (by decide)) (by decide)))
  · exact tBd_w (aBg_w h (by decide))
theorem tTl_l {k n a : Int} {pt : Bool} {t : zXt} : (tTl k n a pt t).1 ≤ t.1 + 11 := by
  unfold tTl
  split
  · have l1 := aBg_l (pt := pt) (t := t) (b := 51)
    have l2 := aBg_l (pt := pt) (t := aBg pt t 51) (b := 13)
    have l3 := tBd_l (k := k) (pt := pt) (t := aBg pt (aBg pt t 51) 13)
    have l4 := tSh_l (k := k) (n := n) (a := a) (pt := pt) (t := tBd k pt (aBg pt (aBg pt t 51) 13))
    omega
  · have l1 := aBg_l (pt := pt) (t := t) (b := 13)
    have l3 := tBd_l (k := k) (pt := pt) (t := aBg pt t 13)
    omega
def xsa (x : zXx) (t : zXt) : zXx := (x.1, x.2.1, x.2.2.1, x.2.2.2.1, x.2.2.2.2.1, x.2.2.2.2.2.1, t)
theorem WX_a {x : zXx} {t : zXt} (w : WX x) (h : t.1 ≤ 30) (h2 : wI t) : WX (xsa x t) := ⟨w.1, w.2.1, w.2.2.1, w.2.2.2.1, w.2.2.2.2.1, ⟨h, h2⟩, w.2.2.2.2.2.2⟩
theorem RC_a {x : zXx} {t : zXt} {σ τ : zM} (h : RC x σ) (f : zFr WA σ τ) (hh : cAc t τ) : RC (xsa x t) τ := by
  obtain ⟨h1, h2, h3, h4, h5, h6⟩ := h
  have e : ∀ g k, ¬ (g = 0 ∧ (k = 49 ∨ k = 50)) → τ.1 g k = σ.1 g k := fun g k hk => zFr_f f (fun i => hk)
  exact ⟨cA_c h1 (fun k a b c d => e 0 k (by omega)) (by rw [e 0 19 (by omega)]), cKe_f (x := x) h2 (by rw [e 0 30 (by omega)]) (fun k hk => e 2 k (by omega)), cTp_f h3 (by rw [e 0 31 (by omega)]) (e 0 32 (by omega)), cRo_f h4 (by rw [e 0 38 (by omega)]) (fun k => e k 40 (by omega)), cHo_f h5 (fun k a b => e 0 k (by omega)) f.2, hh⟩
abbrev WBa : Nat → Nat → Nat → Prop := fun g k i => g = 0 ∧ ((k = 60 ∧ 32 ≤ i ∧ i ≤ 36) ∨ k = 79)
theorem RM_a {x : zXx} {t : zXt} {σ τ : zM} (h : RM x σ) (f : zFr WBa σ τ) (hh : mAc t τ) : RM (xsa x t) τ := by
  obtain ⟨h1, h2, h3, h4, h5, h6⟩ := h
  have e : ∀ k, k ≠ 60 → k ≠ 79 → τ.1 0 k = σ.1 0 k := fun k a b => zFr_f f (fun i => by omega)
  exact ⟨mS_f h1 (e 61 (by decide) (by decide)), mKe_f (x := x) h2 (f.1 _ _ _ (by omega)) (e 62 (by decide) (by decide)), mTp_f h3 (f.1 _ _ _ (by omega)) (e 72 (by decide) (by decide)), mRo_f h4 (f.1 _ _ _ (by omega)) (e 71 (by decide) (by decide)), mHo_f h5 (fun k a b => e k (by omega) (by omega)), hh⟩
def tAc (c k n a : Int) (t : zXt) : zXt := if c = 0 then tSw k false t else if c = 1 then tBd k false t else if c = 2 then tSh k n a false t else tTl k n a false t
def pAc (c k n a : Int) : Bool := if c = 0 then false else if c = 1 then false else if c = 2 then pPs n a false else pTl k n a false
def vAc (c k n a : Int) (y : Int32) : Int32 := if c = 0 then vSw k n y else if c = 1 then vBd k n a y else if c = 2 then vSh k n a y else vTl k n a y
theorem zx_134 {x : zXx} (w : WX x) (p c y : Int) (hp : zrn p) (hc : zrn c) : zCall 134 265 [.inl (iI p), .inl (iI c), .inl (iI y)] x := by
  let t0 : zXt := (0, (xa x).2)
  have ht0 : wI t0 := fun i hi => absurd hi (Nat.not_lt_zero i)
  have w0 : WX (xsa x t0) := WX_a w (Nat.zero_le _) ht0
  have r0 : ∀ {σ}, RC x σ → RC (xsa x t0) (zwI σ 0 49 0 0) := fun {σ} h => RC_a h (zFr_w (by omega)) ⟨zfs, fun i hi => absurd hi (Nat.not_lt_zero i)⟩
  have m0 : ∀ {σ}, RM x σ → RM (xsa x t0) (zwI (zwI σ 0 60 32 0) 0 60 36 0) := fun {σ} h => RM_a h (zFr_tt (zFr_w (by omega)) (zFr_w (by omega))) ⟨by rw [zfe (by omega), zfs]; rfl, fun i hi => absurd hi (Nat.not_lt_zero i)⟩
  have c141 : ∀ {σ : zM}, zev 63 141 [.inl (iI c), .inl 0, .inl 3] σ = some (zB (decide (0 ≤ c ∧ c ≤ 3)), 0, σ) := zc141 (l := 0) (h := 3) hc (by decide) (by decide)
  have m149 : ∀ {σ : zM}, zev 63 149 [.inr (.inl (Int32.toInt64 (iI c))), .inr (.inl 0), .inr (.inl 3)] σ = some (zB (decide (0 ≤ c ∧ c ≤ 3)), 0, σ) := zm149k (l := 0) (h := 3) hc (by decide) (by decide)
  have m1 : ∀ {σ : zM}, RM x σ → zev 63 257 [.inr (.inr (0, 60)), .inl (iI p)] (zwI (zwI σ 0 60 32 0) 0 60 36 0) = some (iI (if 0 ≤ p ∧ p ≤ 3 then aOn x p.toNat else -1), 0, zwI (zwI σ 0 60 32 0) 0 60 36 0) := fun {σ} h => zm257 (d := 60) w (m0 h).1 (m0 h).2.2.2.2.1 hp
  have m33 : ∀ {σ : zM} {v : Int32}, RM x σ → RM (xsa x t0) (zwI (zwI (zwI σ 0 60 32 0) 0 60 36 0) 0 60 33 v) := fun {σ v} h => RM_a h (zFr_tt (zFr_tt (zFr_w (by omega)) (zFr_w (by omega))) (zFr_w (by omega))) ⟨by rw [zfe (by omega), zfe (by omega), zfs]; rfl, fun i hi => absurd hi (Nat.not_lt_zero i)⟩
  by_cases q1 : 0 ≤ p ∧ p ≤ 3
  case neg =>
    refine ⟨xsa x t0, 0, w0, fun σ h => ?_, fun σ h => ?_⟩
    · rw [ez_134]
      simp only [zc144 (d := 61) hp, zbs, zBi, decide_eq_false q1, cond_false]
      exact ⟨0, _, rfl, r0 h⟩
    · rw [ez_265]
      simp only [zgd_t (show z01 0 = true from rfl), m1 h, zbs, if_neg q1, zfs]
      rw [if_pos (by decide)]
      exact ⟨0, _, rfl, m33 h⟩
  obtain ⟨j, rfl⟩ := zint q1.1
  have hj : j < 4 := by omega
  have ho := aOn_r w hj
  have b0 := w.1.1.1
  have b1 := w.1.1.2.1
  by_cases q2 : 0 ≤ c ∧ c ≤ 3
  case neg =>
    refine ⟨xsa x t0, 0, w0, fun σ h => ?_, fun σ h => ?_⟩
    · rw [ez_134]
      simp only [zc144 (d := 61) hp, zbs, zBi, decide_eq_true q1, cond_true, c141, decide_eq_false q2, cond_false]
      exact ⟨0, _, rfl, r0 h⟩
    · rw [ez_265]
      simp only [zgd_t (show z01 0 = true from rfl), m1 h, zbs, if_pos q1, zfs, Int.toNat_natCast, iI_lt0 (show zrn (aOn x j) by omega), m149, zBi, decide_eq_false q2, cond_false]
      split
      · exact ⟨0, _, rfl, m33 h⟩
      · exact ⟨0, _, rfl, m33 h⟩
  by_cases q3 : aOn x j < 0
  · refine ⟨xsa x t0, 0, w0, fun σ h => ?_, fun σ h => ?_⟩
    · have c9 : iI (cE (aOn x j)) = -9 := by rw [show cE (aOn x j) = -9 from if_pos q3]; decide
      rw [ez_134]
      simp only [zc144 (d := 61) hp, zbs, zBi, decide_eq_true q1, cond_true, c141, decide_eq_true q2, zc137 (d := 61) w0 (r0 h) hj, show aOn (xsa x t0) j = aOn x j from rfl, c9, if_true]
      exact ⟨0, _, rfl, r0 h⟩
    · rw [ez_265]
      simp only [zgd_t (show z01 0 = true from rfl), m1 h, zbs, if_pos q1, zfs, Int.toNat_natCast, iI_lt0 (show zrn (aOn x j) by omega), if_pos q3]
      exact ⟨0, _, rfl, m33 h⟩
  obtain ⟨b, hb⟩ := zint (show 0 ≤ aOn x j by omega)
  have hb9 : b < (x.1 0).toNat := by omega
  have wb := w.1.1.2.2 b hb9
  have hk : 1 ≤ x.1 (7 + 5 * b) ∧ x.1 (7 + 5 * b) ≤ 5 := ⟨wb.1, wb.2.1⟩
  have hn : zrn (b : Int) := by omega
  have ha : zrn (x.1 (9 + 5 * b)) := by omega
  have hd : zrn (x.1 (9 + 5 * b) - (b : Int)) := by omega
  have l0 : t0.1 = 0 := rfl
  refine ⟨xsa x (tAc c (x.1 (7 + 5 * b)) b (x.1 (9 + 5 * b)) t0), if pAc c (x.1 (7 + 5 * b)) b (x.1 (9 + 5 * b)) = false then vAc c (x.1 (7 + 5 * b)) b (x.1 (9 + 5 * b)) (iI y) else -15, WX_a w ?_ ?_, fun σ h => ?_, fun σ h => ?_⟩
  · unfold tAc
    have l1 := tSw_l (k := x.1 (7 + 5 * b)) (pt := false) (t := t0)
    have l2 := tBd_l (k := x.1 (7 + 5 * b)) (pt := false) (t := t0)
    have l3 := tSh_l (k := x.1 (7 + 5 * b)) (n := b) (a := x.1 (9 + 5 * b)) (pt := false) (t := t0)
    have l4 := tTl_l (k := x.1 (7 + 5 * b)) (n := b) (a := x.1 (9 + 5 * b)) (pt := false) (t := t0)
    split
    · omega
    · split
      · omega
      · split <;> omega
  · unfold tAc
    split
    · exact tSw_w ht0
    · split
      · exact tBd_w ht0
      · split
        · exact tSh_w ht0
        · exact tTl_w ht0
  · have c9 : ¬ iI (cE (aOn x j)) = -9 := by
      rw [show cE (aOn x j) = aOn x j from if_neg q3, show (-9 : Int32) = iI (-9) by decide, iI_eq (by omega) (by decide)]; omega
    have hA := (r0 h).1
    have cB := hA.1.2 b hb9
    have hgb : ∀ {y : zR}, zgd (zin (iI b) 9) y = y := fun {y} => zgd_t (iI_ink (z := b) (k := b) rfl (by omega) (by decide))
    have hNb : Int32.toNatClampNeg (iI b) = b := iI_Nn (by omega)
    have cB1 : (zwI σ 0 49 0 0).1 0 2 b = iI (x.1 (7 + 5 * b)) := cB.1
    have cB3 : (zwI σ 0 49 0 0).1 0 4 b = iI (x.1 (9 + 5 * b)) := cB.2.2.1
    have e0 : zev 63 0 [.inr (.inr (0, 49)), .inl (iI (x.1 (7 + 5 * b))), .inl (iI b), .inl (iI (x.1 (9 + 5 * b)))] (zwI σ 0 49 0 0) = some (0, 0, zwI (zwI (zwI (zwI (zwI σ 0 49 0 0) 0 49 3 (iI (x.1 (7 + 5 * b)))) 0 49 4 (iI b)) 0 49 5 (iI (x.1 (9 + 5 * b)))) 0 49 2 0) := by
      rw [ez_0, zgd_t (show z01 0 = true from rfl)]
    generalize hσ' : zwI (zwI (zwI (zwI (zwI σ 0 49 0 0) 0 49 3 (iI (x.1 (7 + 5 * b)))) 0 49 4 (iI b)) 0 49 5 (iI (x.1 (9 + 5 * b)))) 0 49 2 0 = σ' at e0
    have fr : zFr WA σ σ' := by rw [← hσ']; exact zFr_tt (zFr_tt (zFr_tt (zFr_tt (zFr_w (by omega)) (zFr_w (by omega))) (zFr_w (by omega))) (zFr_w (by omega))) (zFr_w (by omega))
    have Q0 : cQ t0 false (x.1 (7 + 5 * b)) b (x.1 (9 + 5 * b)) σ' := by
      rw [← hσ']
      exact ⟨⟨by rw [zfe (by omega), zfe (by omega), zfe (by omega), zfe (by omega), zfs]; rfl, fun i hi => absurd hi (Nat.not_lt_zero i)⟩, by rw [zfs]; rfl, by rw [zfe (by omega), zfe (by omega), zfe (by omega), zfs], by rw [zfe (by omega), zfe (by omega), zfs], by rw [zfe (by omega), zfs]⟩
    rw [ez_134]
    simp only [zc144 (d := 61) hp, zbs, zBi, decide_eq_true q1, cond_true, c141, decide_eq_true q2, zc137 (d := 61) w0 (r0 h) hj, show aOn (xsa x t0) j = aOn x j from rfl, if_neg c9]
    rw [show cE (aOn x j) = aOn x j from if_neg q3]
    simp only [hb, hgb, hNb, cB1, cB3, e0, zbs]
    have fin : ∀ (v : Int32) (p' : Bool) (t' : zXt) (τ : zM), zFr WA σ' τ → cQ t' p' (x.1 (7 + 5 * b)) b (x.1 (9 + 5 * b)) τ → ∃ w τ', (if τ.1 0 49 2 = 0 then some (v, (0 : Int64), τ) else some (-15, 0, τ)) = some (if p' = false then v else -15, w, τ') ∧ RC (xsa x t') τ' := by
      intro v p' t' τ g2 g3
      rw [g3.2.1]
      simp only [zBi]
      refine ⟨0, τ, ?_, RC_a h (zFr_tt fr g2) g3.1⟩
      cases p' <;> rfl
    rcases (by omega : c = 0 ∨ c = 1 ∨ c = 2 ∨ c = 3) with rfl | rfl | rfl | rfl
    · obtain ⟨τ, g1, g2, g3⟩ := zc2 (d := 60) (x := iI y) hk Q0 (by omega)
      rw [if_pos (show iI 0 = 0 from rfl), g1]
      exact fin _ _ _ τ g2 g3
    · obtain ⟨τ, g1, g2, g3⟩ := zc3 (d := 58) (x := iI y) hk Q0 (by omega)
      rw [if_neg (show ¬ iI 1 = 0 by decide), if_pos (show iI 1 = 1 from rfl), g1]
      exact fin _ _ _ τ g2 g3
    · obtain ⟨τ, g1, g2, g3⟩ := zc4 (d := 59) (x := iI y) hk hn ha hd Q0 (by omega)
      rw [if_neg (show ¬ iI 2 = 0 by decide), if_neg (show ¬ iI 2 = 1 by decide), if_pos (show iI 2 = 2 from rfl), g1]
      exact fin _ _ _ τ g2 g3
    · obtain ⟨τ, g1, g2, g3⟩ := zc5 (d := 56) (x := iI y) hk hn ha hd Q0 (by omega)
      rw [if_neg (show ¬ iI 3 = 0 by decide), if_neg (show ¬ iI 3 = 1 by decide), if_neg (show ¬ iI 3 = 2 by decide), g1]
      exact fin _ _ _ τ g2 g3
  · have hN : Int32.toNatClampNeg (iI j) = j := iI_Nn (by omega)
    have hm : ∀ (w : Nat) (τ : zM), w < 5 → mS 61 x.1 τ → zev 63 156 [.inr (.inr (0, 60)), .inl (iI b), .inl (iI w)] τ = some (iI (x.1 (7 + 5 * b + w)), 0, τ) := fun w τ hw hS => zm156 (d := 61) hS (by omega)
    generalize hσ1 : zwI (zwI σ 0 60 32 0) 0 60 36 0 = σ1
    have e1 := m1 h
    rw [hσ1, if_pos q1, Int.toNat_natCast, hb] at e1
    have s1 : ∀ {v u : Int32}, mS 61 x.1 (zwI (zwI σ1 0 60 33 v) 0 60 34 u) := fun {v u} => by rw [← hσ1]; exact mS_f h.1 (by rw [zfn (by omega), zfn (by omega), zfn (by omega), zfn (by omega)])
    have s0 : ∀ {v : Int32}, mS 61 x.1 (zwI σ1 0 60 33 v) := fun {v} => by rw [← hσ1]; exact mS_f h.1 (by rw [zfn (by omega), zfn (by omega), zfn (by omega)])
    have e2 : zev 63 156 [.inr (.inr (0, 60)), .inl (iI b), .inl 2] (zwI σ1 0 60 33 (iI b)) = some (iI (x.1 (9 + 5 * b)), 0, zwI σ1 0 60 33 (iI b)) := by
      have := hm 2 _ (by omega) (s0 (v := iI b))
      rw [show 7 + 5 * b + 2 = 9 + 5 * b by omega] at this
      exact this
    have e3 : zev 63 156 [.inr (.inr (0, 60)), .inl (iI b), .inl 0] (zwI (zwI σ1 0 60 33 (iI b)) 0 60 34 (iI (x.1 (9 + 5 * b)))) = some (iI (x.1 (7 + 5 * b)), 0, zwI (zwI σ1 0 60 33 (iI b)) 0 60 34 (iI (x.1 (9 + 5 * b)))) := hm 0 _ (by omega) s1
    rw [ez_265]
    simp only [zgd_t (show z01 0 = true from rfl)]
    rw [hσ1]
    simp only [e1, zbs, zfs, iI_lt0 (show zrn (b : Int) by omega)]
    rw [if_neg (by omega)]
    simp only [m149, zbs, zBi, decide_eq_true q2, cond_true, zfs, e2, zfe (show ¬ (0 = 0 ∧ 60 = 60 ∧ 33 = 34) by omega), e3]
    generalize hσ' : zwI (zwI (zwI σ1 0 60 33 (iI b)) 0 60 34 (iI (x.1 (9 + 5 * b)))) 0 60 35 (iI (x.1 (7 + 5 * b))) = σ'
    have fr : zFr WBa σ σ' := by rw [← hσ', ← hσ1]; exact zFr_tt (zFr_tt (zFr_tt (zFr_tt (zFr_w (by omega)) (zFr_w (by omega))) (zFr_w (by omega))) (zFr_w (by omega))) (zFr_w (by omega))
    have Q0 : mQ t0 false (x.1 (7 + 5 * b)) b (x.1 (9 + 5 * b)) σ' := by
      rw [← hσ', ← hσ1]
      exact ⟨⟨by rw [zfe (by omega), zfe (by omega), zfe (by omega), zfe (by omega), zfs]; rfl, fun i hi => absurd hi (Nat.not_lt_zero i)⟩, by rw [zfe (by omega), zfe (by omega), zfe (by omega), zfs]; rfl, by rw [zfs], by rw [zfe (by omega), zfe (by omega), zfs], by rw [zfe (by omega), zfs]⟩
    have fin : ∀ (v u : Int32) (p' : Bool) (t' : zXt) (τ : zM), (p' = false → v = u) → zFr WB σ' τ → mQ t' p' (x.1 (7 + 5 * b)) b (x.1 (9 + 5 * b)) τ → ∃ w τ', (if τ.1 0 60 36 = 0 then some (v, (0 : Int64), τ) else some (-15, 0, τ)) = some (if p' = false then u else -15, w, τ') ∧ RM (xsa x t') τ' := by
      intro v u p' t' τ e g2 g3
      rw [g3.2.1]
      simp only [zBi]
      refine ⟨0, τ, ?_, RM_a h (zFr_tt fr (zFr_i g2 fun _ _ _ q => by omega)) g3.1⟩
      cases p'
      · rw [e rfl]; rfl
      · rfl
    rcases (by omega : c = 0 ∨ c = 1 ∨ c = 2 ∨ c = 3) with rfl | rfl | rfl | rfl
    · obtain ⟨τ, g1, g2, g3⟩ := zm260 (d := 61) (x := iI y) hk Q0 (by omega)
      rw [if_pos (show iI 0 = 0 from rfl), g1]
      exact fin _ _ _ _ τ (fun _ => rfl) g2 g3
    · obtain ⟨τ, g1, g2, g3⟩ := zm261 (d := 60) (x := iI y) hk Q0 (by omega)
      rw [if_neg (show ¬ iI 1 = 0 by decide), if_pos (show iI 1 = 1 from rfl), g1]
      exact fin _ _ _ _ τ (fun _ => rfl) g2 g3
    · obtain ⟨v, τ, g1, g0, g2, g3⟩ := zm263 (d := 60) (x := iI y) hk hn ha hd Q0 (by omega)
      rw [if_neg (show ¬ iI 2 = 0 by decide), if_neg (show ¬ iI 2 = 1 by decide), if_pos (show iI 2 = 2 from rfl), g1]
      exact fin _ _ _ _ τ g0 g2 g3
    · obtain ⟨v, τ, g1, g0, g2, g3⟩ := zm264 (d := 59) (x := iI y) hk hn ha hd Q0 (by omega)
      rw [if_neg (show ¬ iI 3 = 0 by decide), if_neg (show ¬ iI 3 = 1 by decide), if_neg (show ¬ iI 3 = 2 by decide), g1]
      exact fin _ _ _ _ τ g0 g2 g3
theorem zx_135 {x : zXx} (w : WX x) (p : Int) (hp : zrn p) : zCall 135 267 [.inl (iI p)] x := by
  have wc := w.2.2.2.2.2.1
  have hl := wc.1
  have c1 : ∀ {σ : zM}, RC x σ → zev 63 141 [.inl (iI p), .inl 0, .inl (σ.1 0 49 0 - 1)] σ = some (zB (decide (0 ≤ p ∧ p ≤ ((xa x).1 : Int) - 1)), 0, σ) := fun {σ} h => by
    rw [h.2.2.2.2.2.1, show iI ((xa x).1 : Int) - 1 = iI (((xa x).1 : Int) - 1) from iI_sub _ 1]
    exact zc141 (l := 0) hp (by decide) (by omega)
  have m1 : ∀ {σ : zM}, RM x σ → zev 63 266 [.inr (.inr (0, 60))] σ = some (iI ((xa x).1 : Int), 0, σ) := fun {σ} h => by
    rw [ez_266, h.2.2.2.2.2.1]
    have e30 : (iI ((xa x).1 : Int) < 30) = (((xa x).1 : Int) < 30) := iI_lt (b := 30) (by omega) (by decide)
    simp only [e30]
    by_cases q : ((xa x).1 : Int) < 30
    · rw [if_pos q]
    · rw [if_neg q, show ((xa x).1 : Int) = 30 by omega]; rfl
  have m2 : ∀ {σ : zM}, zev 63 149 [.inr (.inl (Int32.toInt64 (iI p))), .inr (.inl 0), .inr (.inl (Int32.toInt64 (iI ((xa x).1 : Int) - 1)))] σ = some (zB (decide (0 ≤ p ∧ p ≤ ((xa x).1 : Int) - 1)), 0, σ) := fun {σ} => by
    rw [iI_s1, zm149 hp, zt64 (by omega)]
    rw [zdec (show ((0 : Int64).toInt ≤ p ∧ p ≤ ((xa x).1 : Int) - 1) ↔ (0 ≤ p ∧ p ≤ ((xa x).1 : Int) - 1) by rw [show (0 : Int64).toInt = 0 by decide])]
  by_cases q : 0 ≤ p ∧ p ≤ ((xa x).1 : Int) - 1
  · obtain ⟨i, rfl⟩ := zint q.1
    have hi : i < (xa x).1 := by omega
    refine zCq (iI ((xa x).2 i)) w (fun σ h => ?_) (fun σ h => ?_)
    · rw [ez_135]
      simp only [c1 h, zbs, zBi, decide_eq_true q, cond_true, zgd_t (iI_ink (z := i) (k := i) rfl (show i < 30 by omega) (by decide)), iI_Nn (show i ≤ 2147483647 by omega), h.2.2.2.2.2.2 i hi]
      exact ⟨σ, rfl, zFr_r σ⟩
    · rw [ez_267]
      simp only [m1 h, m2, zbs, zBi, decide_eq_true q, cond_true, zgd_t (iI_ink (z := i) (k := i) rfl (show i < 30 by omega) (by decide)), iI_Nn (show i ≤ 2147483647 by omega), h.2.2.2.2.2.2 i hi]
      exact ⟨σ, rfl, zFr_r σ, h.1⟩
  · refine zCq (-3) w (fun σ h => ?_) (fun σ h => ?_)
    · rw [ez_135]
      simp only [c1 h, zbs, zBi, decide_eq_false q, cond_false]
      exact ⟨σ, rfl, zFr_r σ⟩
    · rw [ez_267]
      simp only [m1 h, m2, zbs, zBi, decide_eq_false q, cond_false]
      exact ⟨σ, rfl, zFr_r σ, h.1⟩
theorem zx_136 {x : zXx} (w : WX x) (c : Int) (hc : zrn c) : zCall 136 268 [.inl (iI c)] x := by
  have hl := w.2.2.2.2.2.1.1
  have c0 : (iI c = 0) = (c = 0) := iI_0 hc
  have c1 : (iI c = 1) = (c = 1) := iI_eq (b := 1) hc (by decide)
  have c2 : (iI c = 2) = (c = 2) := iI_eq (b := 2) hc (by decide)
  have c3 : (iI c = 3) = (c = 3) := iI_eq (b := 3) hc (by decide)
  have c4 : (iI c = 4) = (c = 4) := iI_eq (b := 4) hc (by decide)
  have c5 : (iI c = 5) = (c = 5) := iI_eq (b := 5) hc (by decide)
  have c6 : (iI c = 6) = (c = 6) := iI_eq (b := 6) hc (by decide)
  have m1 : ∀ {σ : zM}, RM x σ → zev 63 266 [.inr (.inr (0, 60))] σ = some (iI ((xa x).1 : Int), 0, σ) := fun {σ} h => by
    rw [ez_266, h.2.2.2.2.2.1]
    have e30 : (iI ((xa x).1 : Int) < 30) = (((xa x).1 : Int) < 30) := iI_lt (b := 30) (by omega) (by decide)
    simp only [e30]
    by_cases q : ((xa x).1 : Int) < 30
    · rw [if_pos q]
    · rw [if_neg q, show ((xa x).1 : Int) = 30 by omega]; rfl
  refine zCq (if c = 0 then iI (x.1 0) else if c = 1 then iI (x.1 1) else if c = 2 then iI (x.1 2) else if c = 3 then iI (x.1 3) else if c = 4 then iI (xr x).1 else if c = 5 then iI (xt x).1 else if c = 6 then iI (xa x).1 else -1) w (fun σ h => ?_) (fun σ h => ?_)
  · have hA := h.1
    rw [ez_136]
    simp only [c0, c1, c2, c3, c4, c5, c6, hA.1.1, hA.2.2.2.1.1, hA.2.2.2.2.1.1, hA.2.2.2.2.2.1.1, h.2.2.1.1, h.2.2.2.1.1, h.2.2.2.2.2.1]
    repeat' split
    all_goals exact ⟨σ, rfl, zFr_r σ⟩
  · rw [ez_268]
    simp only [c0, c1, c2, c3, c4, c5, c6, m1 h, zbs, h.1 0 (by decide), h.1 1 (by decide), h.1 2 (by decide), h.1 3 (by decide), h.2.2.1.1, h.2.2.2.1.1]
    repeat' split
    all_goals exact ⟨σ, rfl, zFr_r σ, h.1⟩
theorem RC_k {x : zXx} {σ τ : zM} (h : RC x σ) (f : zFr (fun g k i => (g = 2 ∧ k ≤ 22) ∨ (g = 0 ∧ k = 30 ∧ i = 3)) σ τ) (hh : cA 2 x.1 τ) (h3 : τ.1 0 30 3 = 1) : RC (x.1, x.1, true, x.2.2.2) τ := by
  obtain ⟨h1, h2, h3', h4, h5, h6⟩ := h
  have e : ∀ k, k ≠ 30 → τ.1 0 k = σ.1 0 k := fun k a => zFr_f f (fun i => by omega)
  exact ⟨cA_c h1 (fun k a b c d => e k (by omega)) (by rw [e 19 (by decide)]), ⟨h3, fun _ => hh⟩, cTp_f h3' (by rw [e 31 (by decide)]) (e 32 (by decide)), cRo_f h4 (by rw [e 38 (by decide)]) (fun k => zFr_f f (fun i => by omega)), cHo_f h5 (fun k a b => e k (by omega)) f.2, cAc_f h6 (by rw [e 49 (by decide)]) (e 50 (by decide))⟩
theorem RM_k {x : zXx} {σ τ : zM} (h : RM x σ) (f : zFr (fun g k i => g = 0 ∧ (k = 62 ∨ (k = 60 ∧ i = 3))) σ τ) (hh : mS 62 x.1 τ) (h3 : τ.1 0 60 3 = 1) : RM (x.1, x.1, true, x.2.2.2) τ := by
  obtain ⟨h1, h2, h3', h4, h5, h6⟩ := h
  have e : ∀ k, k ≠ 60 → k ≠ 62 → τ.1 0 k = σ.1 0 k := fun k a b => zFr_f f (fun i => by omega)
  exact ⟨mS_f h1 (e 61 (by decide) (by decide)), ⟨h3, fun _ => hh⟩, mTp_f h3' (f.1 _ _ _ (by omega)) (e 72 (by decide) (by decide)), mRo_f h4 (f.1 _ _ _ (by omega)) (e 71 (by decide) (by decide)), mHo_f h5 (fun k a b => e k (by omega) (by omega)), mAc_f h6 (f.1 _ _ _ (by omega)) (e 79 (by decide) (by decide))⟩
theorem zx_139 {x : zXx} (w : WX x) : zCall 139 269 [] x := by
  refine ⟨(x.1, x.1, true, x.2.2.2), 1, ⟨w.1, fun _ => w.1, w.2.2.1, w.2.2.2.1, w.2.2.2.2.1, w.2.2.2.2.2.1, w.2.2.2.2.2.2.1, fun _ => w.2.2.2.2.2.2.1⟩, fun σ h => ?_, fun σ h => ?_⟩
  · obtain ⟨τ, g1, g2, g3⟩ := zc25 (d := 58) (g := 2) (h := 0) (by decide) w.1 h.1
    have g1 : zev 63 25 [.inr (.inr (2, 0)), .inr (.inr (0, 0))] σ = some (0, 0, τ) := g1
    rw [ez_139]
    simp only [g1, zbs, zgd_t (show z01 1 = true from rfl)]
    exact ⟨0, _, rfl, RC_k h (zFr_tt (zFr_i g2 fun _ _ _ q => by omega) (zFr_w (by omega))) (cA_c g3 (fun k a b c d => zfn (by omega)) (zfe (by omega))) (by rw [zfs])⟩
  · have key : ∀ (m k : Nat) (τ : zM), k + m = 320 → mS 61 x.1 τ → (∀ i, i < k → τ.1 0 62 i = iI (x.1 i)) → zFr (fun g k i => g = 0 ∧ (k = 62 ∨ (k = 60 ∧ i = 3))) σ τ → ∃ υ, zrun (zev 63) zT_269 2 [some (.inr (.inr (0, 60))), some (.inl (iI k))] [] τ = some (1, 0, υ) ∧ zFr (fun g k i => g = 0 ∧ (k = 62 ∨ (k = 60 ∧ i = 3))) σ υ ∧ mS 62 x.1 υ ∧ υ.1 0 60 3 = 1 := by
      intro m
      induction m with
      | zero =>
        intro k τ hk hS h2 f
        rw [ez_269_2, if_neg (by show ¬ iI k < iI 320; rw [iI_lt (by omega) (by omega)]; omega), zgd_t (show z01 1 = true from rfl)]
        refine ⟨_, rfl, zFr_tt f (zFr_w (by omega)), fun i hi => ?_, by rw [zfs]⟩
        rw [zfe (by omega)]; exact h2 i (by omega)
      | succ m ih =>
        intro k τ hk hS h2 f
        rw [ez_269_2, if_pos (by show iI k < iI 320; rw [iI_lt (by omega) (by omega)]; omega)]
        simp only [zgd_t (iI_ink (z := k) (k := k) rfl (show k < 320 by omega) (by decide)), iI_Nn (show k ≤ 2147483647 by omega), hki1, hS k (by omega)]
        refine ih (k + 1) _ (by omega) (mS_f hS (zfn (by omega))) (fun i hi => ?_) (zFr_tt f (zFr_w (by omega)))
        by_cases q : i = k
        · subst q; rw [zfs]
        · rw [zfe (by omega)]; exact h2 i (by omega)
    obtain ⟨υ, g1, g2, g3, g4⟩ := key 320 0 σ (by omega) h.1 (fun i hi => absurd hi (Nat.not_lt_zero i)) (zFr_r σ)
    rw [ez_269]
    exact ⟨0, υ, g1, RM_k h g2 g3 g4⟩
theorem zx_140 {x : zXx} (w : WX x) : zCall 140 270 [] x := by
  cases q : x.2.2.1
  · refine zCq (-3) w (fun σ h => ?_) (fun σ h => ?_)
    · rw [ez_140, h.2.1.1, q]
      exact ⟨σ, rfl, zFr_r σ⟩
    · rw [ez_270, h.2.1.1, q]
      exact ⟨σ, rfl, zFr_r σ, h.1⟩
  · refine zCs x.2.1 (iI (x.2.1 0)) w (w.2.1 q) (w.2.2.2.2.2.2.2 q) (fun σ h => ?_) (fun σ h => ?_)
    · obtain ⟨τ, g1, g2, g3⟩ := zc25 (d := 58) (g := 0) (h := 2) (by decide) (w.2.1 q) (h.2.1.2 q)
      have g1 : zev 63 25 [.inr (.inr (0, 0)), .inr (.inr (2, 0))] σ = some (0, 0, τ) := g1
      rw [ez_140]
      simp only [h.2.1.1, q, zBi, cond_true, g1, zbs, g3.1.1]
      exact ⟨τ, rfl, zFr_i g2 fun _ _ _ q => by omega, g3⟩
    · have hK := h.2.1.2 q
      have key : ∀ (m k : Nat) (τ : zM), k + m = 320 → mS 62 x.2.1 τ → (∀ i, i < k → τ.1 0 61 i = iI (x.2.1 i)) → zFr WM σ τ → ∃ υ, zrun (zev 63) zT_270 12 [some (.inr (.inr (0, 60))), some (.inl (iI k))] [] τ = some (iI (x.2.1 0), 0, υ) ∧ zFr WM σ υ ∧ mS 61 x.2.1 υ := by
        intro m
        induction m with
        | zero =>
          intro k τ hk hS h2 f
          rw [ez_270_12, if_neg (by show ¬ iI k < iI 320; rw [iI_lt (by omega) (by omega)]; omega), h2 0 (by omega)]
          exact ⟨_, rfl, f, fun i hi => h2 i (by omega)⟩
        | succ m ih =>
          intro k τ hk hS h2 f
          rw [ez_270_12, if_pos (by show iI k < iI 320; rw [iI_lt (by omega) (by omega)]; omega)]
          simp only [zgd_t (iI_ink (z := k) (k := k) rfl (show k < 320 by omega) (by decide)), iI_Nn (show k ≤ 2147483647 by omega), hki1, hS k (by omega)]
          refine ih (k + 1) _ (by omega) (mS_f hS (zfn (by omega))) (fun i hi => ?_) (zFr_tt f (zFr_w (by omega)))
          by_cases q : i = k
          · subst q; rw [zfs]
          · rw [zfe (by omega)]; exact h2 i (by omega)
      obtain ⟨υ, g1, g2, g3⟩ := key 320 0 σ (by omega) hK (fun i hi => absurd hi (Nat.not_lt_zero i)) (zFr_r σ)
      rw [ez_270]
      simp only [h.2.1.1, q, zBi, cond_true]
      exact ⟨υ, g1, g2, g3⟩
theorem zby_bv (a : BitVec 64) (s : Nat) (hs : s ≤ 56) : BitVec.setWidth 32 (a >>> s) &&& 255#32 = BitVec.setWidth 32 (a.sshiftRight s &&& 255#64) := by
  apply BitVec.eq_of_getLsbD_eq
  intro k hk
  have n255 : ∀ j, 8 ≤ j → Nat.testBit 255 j = false := fun j hj => Nat.testBit_lt_two_pow (Nat.lt_of_lt_of_le (by decide : 255 < 2 ^ 8) (Nat.pow_le_pow_right (by decide) hj))
  simp only [BitVec.getLsbD_and, BitVec.getLsbD_setWidth, BitVec.getLsbD_ushiftRight, BitVec.getLsbD_sshiftRight, BitVec.getLsbD_ofNat]
  by_cases q : k < 8
  · have h1 : s + k < 64 := by omega
    have h2 : ¬ 64 ≤ k := by omega
    have h3 : k < 64 := by omega
    simp [hk, h1, h2, h3]
  · simp [n255 k (by omega)]
def zBy (e : Int64) (k : Nat) : Int := Int32.toInt (Int64.toInt32 ((e >>> (Int32.toInt64 (8 * iI k) &&& 63)) &&& 255))
theorem zBy_r (e : Int64) (k : Nat) : 0 ≤ zBy e k ∧ zBy e k ≤ 255 := by
  have h : (Int64.toInt32 ((e >>> (Int32.toInt64 (8 * iI k) &&& 63)) &&& 255)).toBitVec.toNat ≤ 255 := by
    show (BitVec.signExtend 32 ((e >>> (Int32.toInt64 (8 * iI k) &&& 63)).toBitVec &&& 255#64)).toNat ≤ 255
    rw [BitVec.signExtend_eq_setWidth_of_le _ (by decide), BitVec.toNat_setWidth, BitVec.toNat_and]
    have := Nat.and_le_right (n := (e >>> (Int32.toInt64 (8 * iI k) &&& 63)).toBitVec.toNat) (m := (255#64).toNat)
    have e255 : (255#64).toNat = 255 := by decide
    omega
  unfold zBy
  show 0 ≤ BitVec.toInt _ ∧ BitVec.toInt _ ≤ 255
  rw [BitVec.toInt_eq_toNat_of_lt (by omega)]
  omega
theorem zBy_m (e : Int64) (k : Nat) : Int64.toInt32 ((e >>> (Int32.toInt64 (8 * iI k) &&& 63)) &&& 255) = iI (zBy e k) := (Int32.ofInt_toInt _).symm
theorem zBy_c (e : Int64) {k : Nat} (hk : k < 8) : (Int64.toInt32 ((Int64.toUInt64 e >>> ((Int32.toInt64 (8 * iI k)).toUInt64 &&& Int64.toUInt64 63)).toInt64)) &&& 255 = iI (zBy e k) := by
  rw [← zBy_m]
  apply Int32.toBitVec_inj.mp
  have hs : (8 * k : Nat) ≤ 56 := by omega
  have e1 : ∀ k : Nat, k < 8 → ((Int32.toInt64 (8 * iI k)).toUInt64 &&& Int64.toUInt64 63).toBitVec % 64 = BitVec.ofNat 64 (8 * k) := by decide
  have e2 : ∀ k : Nat, k < 8 → (Int32.toInt64 (8 * iI k) &&& 63).toBitVec.smod 64 = BitVec.ofNat 64 (8 * k) := by decide
  show BitVec.signExtend 32 (e.toBitVec >>> (((Int32.toInt64 (8 * iI k)).toUInt64 &&& Int64.toUInt64 63).toBitVec % 64)) &&& 255#32 = BitVec.signExtend 32 (e.toBitVec.sshiftRight' ((Int32.toInt64 (8 * iI k) &&& 63).toBitVec.smod 64) &&& 255#64)
  rw [BitVec.signExtend_eq_setWidth_of_le _ (by decide), BitVec.signExtend_eq_setWidth_of_le _ (by decide), e1 k hk, e2 k hk]
  have e3 : (BitVec.ofNat 64 (8 * k)).toNat = 8 * k := by rw [BitVec.toNat_ofNat]; omega
  have e4 : e.toBitVec >>> BitVec.ofNat 64 (8 * k) = e.toBitVec >>> (8 * k) := by
    show e.toBitVec >>> (BitVec.ofNat 64 (8 * k)).toNat = _
    rw [e3]
  rw [e4]
  show _ = BitVec.setWidth 32 (e.toBitVec.sshiftRight (BitVec.ofNat 64 (8 * k)).toNat &&& 255#64)
  rw [e3]
  exact zby_bv _ _ hs
def aFe (e : Int64) : Nat → Nat → zXt → zXt
  | 0, _, t => t
  | n + 1, k, t => aFe e n (k + 1) (t.1 + 1, fun i => if i = t.1 then zBy e k else t.2 i)
theorem aFe_l {e : Int64} : ∀ (n k : Nat) (t : zXt), (aFe e n k t).1 = t.1 + n
  | 0, _, _ => rfl
  | n + 1, k, t => by
    show (aFe e n (k + 1) (t.1 + 1, fun i => if i = t.1 then zBy e k else t.2 i)).1 = _
    rw [aFe_l n (k + 1)]
    show t.1 + 1 + n = _
    omega
theorem aFe_w {e : Int64} : ∀ (n k : Nat) (t : zXt), (∀ i, i < t.1 → 0 ≤ t.2 i ∧ t.2 i ≤ 255) → ∀ i, i < (aFe e n k t).1 → 0 ≤ (aFe e n k t).2 i ∧ (aFe e n k t).2 i ≤ 255
  | 0, _, _, h => h
  | n + 1, k, t, h => aFe_w n (k + 1) (t.1 + 1, fun i => if i = t.1 then zBy e k else t.2 i) (fun i hi => by
      have hi : i < t.1 + 1 := hi
      show 0 ≤ (if i = t.1 then zBy e k else t.2 i) ∧ (if i = t.1 then zBy e k else t.2 i) ≤ 255
      split
      · exact zBy_r e k
      · exact h i (by omega))
def xst (x : zXx) (t : zXt) : zXx := (x.1, x.2.1, x.2.2.1, t, x.2.2.2.2)
theorem RC_t {x : zXx} {t : zXt} {σ τ : zM} (h : RC x σ) (f : zFr (fun g k _ => g = 0 ∧ (k = 31 ∨ k = 32)) σ τ) (hh : cTp t τ) : RC (xst x t) τ := by
  obtain ⟨h1, h2, h3, h4, h5, h6⟩ := h
  have e : ∀ g k, ¬ (g = 0 ∧ (k = 31 ∨ k = 32)) → τ.1 g k = σ.1 g k := fun g k hk => zFr_f f (fun i => hk)
  exact ⟨cA_c h1 (fun k a b c d => e 0 k (by omega)) (by rw [e 0 19 (by omega)]), cKe_f (x := x) h2 (by rw [e 0 30 (by omega)]) (fun k hk => e 2 k (by omega)), hh, cRo_f h4 (by rw [e 0 38 (by omega)]) (fun k => e k 40 (by omega)), cHo_f h5 (fun k a b => e 0 k (by omega)) f.2, cAc_f h6 (by rw [e 0 49 (by omega)]) (e 0 50 (by omega))⟩
theorem RM_t {x : zXx} {t : zXt} {σ τ : zM} (h : RM x σ) (f : zFr (fun g k i => g = 0 ∧ ((k = 60 ∧ i = 18) ∨ k = 72)) σ τ) (hh : mTp t τ) : RM (xst x t) τ := by
  obtain ⟨h1, h2, h3, h4, h5, h6⟩ := h
  have e : ∀ k, k ≠ 60 → k ≠ 72 → τ.1 0 k = σ.1 0 k := fun k a b => zFr_f f (fun i => by omega)
  exact ⟨mS_f h1 (e 61 (by decide) (by decide)), mKe_f (x := x) h2 (f.1 _ _ _ (by omega)) (e 62 (by decide) (by decide)), hh, mRo_f h4 (f.1 _ _ _ (by omega)) (e 71 (by decide) (by decide)), mHo_f h5 (fun k a b => e k (by omega) (by omega)), mAc_f h6 (f.1 _ _ _ (by omega)) (e 79 (by decide) (by decide))⟩
theorem zx_89 {x : zXx} (w : WX x) (e : Int64) (n : Int) (hn : zrn n) : zCall 89 231 [.inr (.inl e), .inl (iI n)] x := by
  have wt := w.2.2.1
  have hl := wt.1
  have c1 : ∀ {σ : zM}, zev 63 141 [.inl (iI n), .inl 1, .inl 8] σ = some (zB (decide (1 ≤ n ∧ n ≤ 8)), 0, σ) := zc141 (l := 1) (h := 8) hn (by decide) (by decide)
  have m1 : ∀ {σ : zM}, zev 63 149 [.inr (.inl (Int32.toInt64 (iI n))), .inr (.inl 1), .inr (.inl 8)] σ = some (zB (decide (1 ≤ n ∧ n ≤ 8)), 0, σ) := zm149k (l := 1) (h := 8) hn (by decide) (by decide)
  by_cases q1 : 1 ≤ n ∧ n ≤ 8
  case neg =>
    refine zCq (-1) w (fun σ h => ?_) (fun σ h => ?_)
    · rw [ez_89]
      simp only [c1, zbs, zBi, decide_eq_false q1, cond_false]
      exact ⟨σ, rfl, zFr_r σ⟩
    · rw [ez_231]
      simp only [m1, zbs, zBi, decide_eq_false q1, cond_false]
      exact ⟨σ, rfl, zFr_r σ, h.1⟩
  obtain ⟨N', rfl⟩ := zint (show 0 ≤ n by omega)
  have e200 : (200 < iI ((xt x).1 : Int) + iI (N' : Int)) = (200 < ((xt x).1 : Int) + N') := by
    rw [iI_add]; exact iI_lt (a := 200) (by decide) (by omega)
  by_cases q2 : 200 < ((xt x).1 : Int) + N'
  · refine zCq (-2) w (fun σ h => ?_) (fun σ h => ?_)
    · rw [ez_89]
      simp only [c1, zbs, zBi, decide_eq_true q1, cond_true, h.2.2.1.1, e200, if_pos q2]
      exact ⟨σ, rfl, zFr_r σ⟩
    · rw [ez_231]
      simp only [m1, zbs, zBi, decide_eq_true q1, cond_true, h.2.2.1.1, e200, if_pos q2]
      exact ⟨σ, rfl, zFr_r σ, h.1⟩
  have wl : (aFe e N' 0 (xt x)).1 = (xt x).1 + N' := aFe_l _ _ _
  refine ⟨xst x (aFe e N' 0 (xt x)), iI (((xt x).1 + N' : Nat) : Int), ⟨w.1, w.2.1, ⟨by rw [show xt (xst x (aFe e N' 0 (xt x))) = aFe e N' 0 (xt x) from rfl]; omega, aFe_w _ _ _ wt.2⟩, w.2.2.2⟩, fun σ h => ?_, fun σ h => ?_⟩
  · have key : ∀ (m k : Nat) (t : zXt) (τ : zM) (d2 : Option zV), k + m = N' → t.1 + m ≤ 200 → cTp t τ → ∃ υ, zrun (zev 62) zT_75 3 [some (.inr (.inr (0, 31))), some (.inr (.inl e)), d2, some (.inl (iI N')), some (.inl (iI k))] [] τ = some (0, 0, υ) ∧ zFr (fun g k _ => g = 0 ∧ (k = 31 ∨ k = 32)) τ υ ∧ cTp (aFe e m k t) υ := by
      intro m
      induction m with
      | zero =>
        intro k t τ d2 hk ht hT
        rw [ez_75_3, if_neg (by rw [iI_lt (by omega) (by omega)]; omega)]
        exact ⟨τ, rfl, zFr_r τ, hT⟩
      | succ m ih =>
        intro k t τ d2 hk ht hT
        have e20 : (iI (t.1 : Int) < 200) = ((t.1 : Int) < 200) := iI_lt (b := 200) (by omega) (by decide)
        rw [ez_75_3, if_pos (by rw [iI_lt (by omega) (by omega)]; omega), hT.1]
        simp only [e20, zBy_c e (show k < 8 by omega), hki1]
        rw [if_pos (by omega), zgd_t (iI_ink (z := t.1) (k := t.1) rfl (show t.1 < 200 by omega) (by decide)), iI_Nn (show t.1 ≤ 2147483647 by omega), zfe (by omega), hT.1, hki1]
        obtain ⟨υ, g1, g2, g3⟩ := ih (k + 1) (t.1 + 1, fun i => if i = t.1 then zBy e k else t.2 i) (zwI (zwI τ 0 32 t.1 (iI (zBy e k))) 0 31 0 (iI ((t.1 + 1 : Nat) : Int))) none (by omega) (by show t.1 + 1 + m ≤ 200; omega) ⟨zfs, fun i hi => by
          have hi : i < t.1 + 1 := hi
          show _ = iI (if i = t.1 then zBy e k else t.2 i)
          by_cases q : i = t.1
          · subst q; rw [if_pos rfl, zfe (by omega), zfs]
          · rw [if_neg q, zfe (by omega), zfe (by omega)]; exact hT.2 i (by omega)⟩
        exact ⟨υ, g1, zFr_tt (zFr_tt (zFr_w (by omega)) (zFr_w (by omega))) g2, g3⟩
    obtain ⟨υ, g1, g2, g3⟩ := key N' 0 (xt x) σ none (by omega) (by omega) h.2.2.1
    have e75 : zev 63 75 [.inr (.inr (0, 31)), .inr (.inl e), .inl (iI N')] σ = some (0, 0, υ) := by
      rw [ez_75]; exact g1
    have g31 := g3.1
    rw [wl] at g31
    rw [ez_89]
    simp only [c1, zbs, zBi, decide_eq_true q1, cond_true, h.2.2.1.1, e200, if_neg q2, e75, g31]
    exact ⟨0, υ, rfl, RC_t h g2 g3⟩
  · have key : ∀ (m k : Nat) (t : zXt) (τ : zM) (d2 : Option zV), k + m = N' → t.1 + m ≤ 200 → mTp t τ → ∃ υ, zrun (zev 63) zT_231 32 [some (.inr (.inr (0, 60))), some (.inr (.inl e)), d2, some (.inl (iI N')), some (.inl (iI k))] [] τ = some (iI ((t.1 + m : Nat) : Int), 0, υ) ∧ zFr (fun g k i => g = 0 ∧ ((k = 60 ∧ i = 18) ∨ k = 72)) τ υ ∧ mTp (aFe e m k t) υ := by
      intro m
      induction m with
      | zero =>
        intro k t τ d2 hk ht hT
        rw [ez_231_32, if_neg (by rw [iI_lt (by omega) (by omega)]; omega), hT.1]
        exact ⟨τ, rfl, zFr_r τ, hT⟩
      | succ m ih =>
        intro k t τ d2 hk ht hT
        rw [ez_231_32, if_pos (by rw [iI_lt (by omega) (by omega)]; omega), hT.1]
        simp only [zBy_m, hki1]
        rw [zgd_t (iI_ink (z := t.1) (k := t.1) rfl (show t.1 < 200 by omega) (by decide)), iI_Nn (show t.1 ≤ 2147483647 by omega), zfe (by omega), hT.1, hki1]
        obtain ⟨υ, g1, g2, g3⟩ := ih (k + 1) (t.1 + 1, fun i => if i = t.1 then zBy e k else t.2 i) (zwI (zwI τ 0 72 t.1 (iI (zBy e k))) 0 60 18 (iI ((t.1 + 1 : Nat) : Int))) none (by omega) (by show t.1 + 1 + m ≤ 200; omega) ⟨zfs, fun i hi => by
          have hi : i < t.1 + 1 := hi
          show _ = iI (if i = t.1 then zBy e k else t.2 i)
          by_cases q : i = t.1
          · subst q; rw [if_pos rfl, zfe (by omega), zfs]
          · rw [if_neg q, zfe (by omega), zfe (by omega)]; exact hT.2 i (by omega)⟩
        refine ⟨υ, g1.trans ?_, zFr_tt (zFr_tt (zFr_w (by omega)) (zFr_w (by omega))) g2, g3⟩
        show some (iI ((t.1 + 1 + m : Nat) : Int), 0, υ) = _
        rw [show t.1 + 1 + m = t.1 + (m + 1) by omega]
    obtain ⟨υ, g1, g2, g3⟩ := key N' 0 (xt x) σ none (by omega) (by omega) h.2.2.1
    have g1 : zrun (zev 63) zT_231 32 [some (.inr (.inr (0, 60))), some (.inr (.inl e)), none, some (.inl (iI N')), some (.inl 0)] [] σ = _ := g1
    rw [ez_231]
    simp only [m1, zbs, zBi, decide_eq_true q1, cond_true, h.2.2.1.1, e200, if_neg q2, g1]
    exact ⟨0, υ, rfl, RM_t h g2 g3⟩
theorem iI_neg' (z : Int) : -iI z = iI (-z) := iI_neg z
theorem aSeat_0 {T : zS} {p : Nat} (w : wP T) (hp : p < (T 2).toNat) (h : aSeat T p < 0) : T (54 + 3 * p) = 0 := by
  have := w.2.2 p hp
  unfold aSeat at h
  omega
theorem aSit_back {T : zS} {p : Nat} {z : Int} (h : T (54 + 3 * p) = 0) : aSit (aSit T p z) p (-1) = T := by
  unfold aSit
  rw [zup_up]
  have := zup_same (S := T) (i := 54 + 3 * p) (v := -1 + 1) (by omega)
  exact this
theorem cS_c {g : Nat} {S T : zS} {f h : Nat → Int} {σ : zM} (hs : cS g S f σ) (e0 : T 0 = S 0) (e : ∀ b, b < (S 0).toNat → h b = f b) : cS g T h σ := fun b hb => by
  rw [e0] at hb
  rw [e b hb]; exact hs b hb
theorem aSp_sit0 {T : zS} {p b : Nat} (w : wA T) (hp : p < (T 2).toNat) (h : aSeat T p < 0) (hb : b < (T 0).toNat) : ∀ u, u < (T 0).toNat → aSp (aSit T p b) u = aLd T (aSp T) b (T (52 + 3 * p)) u := fun u hu => by
  have b0 := w.1.1
  rw [aSp_sit w hp (by omega) hu, aAbI_n h, cond_false]
  unfold aLd
  omega
theorem zcSit1 {d p b : Nat} {T : zS} {σ : zM} (w : wA T) (hA : cA 3 T σ) (hs : cS 3 T (aSp T) σ) (hp : p < (T 2).toNat) (h : aSeat T p < 0) (hb : b < (T 0).toNat) : ∃ τ, zev (d + 3) 28 [.inr (.inr (3, 0)), .inl (iI b), .inl (iI (T (52 + 3 * p)))] (zwI σ 3 18 p (iI b)) = some (0, 0, τ) ∧ zFr (WG 3) σ τ ∧ wA (aSit T p b) ∧ cA 3 (aSit T p b) τ ∧ cS 3 (aSit T p b) (aSp (aSit T p b)) τ ∧ zev (d + 3) 29 [.inr (.inr (3, 0))] τ = some (zcr (aCr (aSit T p b) (aSp (aSit T p b))) ((aSit T p b 0).toNat), 0, τ) := by
  have b0 := w.1.1
  have p1 := w.2.2.1.2.1
  have w2 : wA (aSit T p b) := aSit_w w hp (by omega)
  have hA2 : cA 3 (aSit T p b) (zwI σ 3 18 p (iI b)) := by
    have := cA_sit (p := p) (z := (b : Int)) hA w (by omega)
    rwa [show cE (b : Int) = b from if_neg (by omega)] at this
  have e0 : aSit T p b 0 = T 0 := aSit_n (by omega)
  have hs2 : cS 3 (aSit T p b) (aSp T) (zwI σ 3 18 p (iI b)) := fun u hu => by
    rw [zfe (by omega)]; exact hs u (by rw [e0] at hu; exact hu)
  obtain ⟨τ, g1, g2, g3⟩ := zc28n (d := d) (x := T (52 + 3 * p)) hA2.1 w2.1 hs2 (by rw [e0]; exact hb)
  have hA3 : cA 3 (aSit T p b) τ := cA_c hA2 (fun k a _ _ _ => zFr_f g2 (fun i => by omega)) (g2.1 _ _ _ (by omega))
  have hs3 : cS 3 (aSit T p b) (aSp (aSit T p b)) τ := cS_c g3 rfl fun u hu => by
    rw [e0] at hu
    rw [aSp_sit0 w hp h hb u hu]
    unfold aLd
    rw [aSit_ab (by omega) w.1 (by omega)]
  exact ⟨τ, g1, zFr_tt (zFr_w (by omega)) (zFr_i g2 fun _ _ _ q => by omega), w2, hA3, hs3, zc29 (d := d) hA3.1 hA3.2.1 w2.1 hs3 (aSp_r w2)⟩
theorem zcSit2 {d p b : Nat} {T : zS} {σ : zM} (w : wA T) (w2 : wA (aSit T p b)) (hA : cA 3 (aSit T p b) σ) (hs : cS 3 (aSit T p b) (aSp (aSit T p b)) σ) (hp : p < (T 2).toNat) (h : aSeat T p < 0) (hb : b < (T 0).toNat) : ∃ τ, zev (d + 3) 28 [.inr (.inr (3, 0)), .inl (iI b), .inl (iI (-(T (52 + 3 * p))))] σ = some (0, 0, τ) ∧ zFr (WG 3) σ (zwI τ 3 18 p (-9)) ∧ cA 3 T (zwI τ 3 18 p (-9)) ∧ cS 3 T (aSp T) (zwI τ 3 18 p (-9)) := by
  have p1 := w.2.2.1.2.1
  have b0 := w.1.1
  have e0 : aSit T p b 0 = T 0 := aSit_n (by omega)
  obtain ⟨τ, g1, g2, g3⟩ := zc28n (d := d) (x := -(T (52 + 3 * p))) hA.1 w2.1 hs (by rw [e0]; exact hb)
  have hA3 : cA 3 (aSit T p b) τ := cA_c hA (fun k a _ _ _ => zFr_f g2 (fun i => by omega)) (g2.1 _ _ _ (by omega))
  have hA4 := cA_sit (p := p) (z := -1) hA3 w2 (by omega)
  rw [aSit_back (aSeat_0 w.2.2.1 hp h)] at hA4
  refine ⟨τ, g1, zFr_tt (zFr_i g2 fun _ _ _ q => by omega) (zFr_w (by omega)), hA4, fun u hu => ?_⟩
  rw [zfe (by omega), g3 u (by rw [e0]; exact hu)]
  congr 1
  unfold aLd
  rw [aSp_sit0 w hp h hb u hu, aSit_ab (by omega) w.1 (by omega)]
  unfold aLd
  cases aAbI T b u
  · rw [cond_false, cond_false]; omega
  · rw [cond_true, cond_true]; omega
def aId (T : zS) (s : Int) : Nat → Nat → Int
  | 0, _ => -1
  | n + 1, k => if T (53 + 3 * k) = s ∧ aSeat T k < 0 then k else aId T s n (k + 1)
theorem aId_r {T : zS} {s : Int} : ∀ (n k : Nat), aId T s n k < 0 ∨ ∃ p : Nat, aId T s n k = p ∧ p < k + n ∧ T (53 + 3 * p) = s ∧ aSeat T p < 0
  | 0, k => Or.inl (by show (-1 : Int) < 0; omega)
  | n + 1, k => by
    have ih := aId_r (T := T) (s := s) n (k + 1)
    show (if T (53 + 3 * k) = s ∧ aSeat T k < 0 then (k : Int) else aId T s n (k + 1)) < 0 ∨ ∃ p : Nat, (if T (53 + 3 * k) = s ∧ aSeat T k < 0 then (k : Int) else aId T s n (k + 1)) = p ∧ _
    by_cases q : T (53 + 3 * k) = s ∧ aSeat T k < 0
    · rw [if_pos q]
      exact Or.inr ⟨k, rfl, by omega, q.1, q.2⟩
    · rw [if_neg q]
      rcases ih with h | ⟨p, h1, h2, h3⟩
      · exact Or.inl h
      · exact Or.inr ⟨p, h1, by omega, h3⟩
theorem aId_b {T : zS} {s : Int} (n k : Nat) : -1 ≤ aId T s n k := by
  induction n generalizing k with
  | zero => exact Int.le_refl _
  | succ n ih =>
    show -1 ≤ (if T (53 + 3 * k) = s ∧ aSeat T k < 0 then (k : Int) else aId T s n (k + 1))
    split
    · omega
    · exact ih (k + 1)
theorem zc39 {d g : Nat} {T : zS} {s : Int} {σ : zM} (w : wP T) (h0 : 0 ≤ T 0 ∧ T 0 ≤ 9) (hP : cP g T σ) (hs : 0 ≤ s ∧ s ≤ 1) : zev (d + 1) 39 [.inr (.inr (g, 15)), .inl (iI s)] σ = some (iI (cE (aId T s ((T 2).toNat) 0)), 0, σ) := by
  have p0 := w.1
  have p1 := w.2.1
  have key : ∀ n k, k + n = (T 2).toNat → zrun (zev d) zT_39 2 [some (.inr (.inr (g, 15))), some (.inl (iI s)), some (.inl (iI k))] [] σ = some (iI (cE (aId T s n k)), 0, σ) := by
    intro n
    induction n with
    | zero =>
      intro k hk
      rw [ez_39_2, hP.1, if_neg (by rw [iI_lt (by omega) (by omega)]; omega)]
      rfl
    | succ n ih =>
      intro k hk
      have w2 := w.2.2 k (by omega)
      have hp := hP.2 k (by omega)
      have hr := aSeat_r w (show k < (T 2).toNat by omega)
      have e : aId T s (n + 1) k = if T (53 + 3 * k) = s ∧ aSeat T k < 0 then (k : Int) else aId T s n (k + 1) := rfl
      have e9 : (iI (cE (aSeat T k)) = -9) = (aSeat T k < 0) := by
        rw [show (-9 : Int32) = iI (-9) by decide, iI_eq (by unfold cE; split <;> omega) (by decide)]
        unfold cE
        split
        · rename_i q; simp [q]
        · rename_i q; simp [q]; omega
      rw [ez_39_2, hP.1, if_pos (by rw [iI_lt (by omega) (by omega)]; omega)]
      simp only [zgd_t (iI_ink (z := k) (k := k) rfl (show k < 8 by omega) (by decide)), iI_Nn (show k ≤ 2147483647 by omega), hp.2.1, hp.2.2, iI_eq (show zrn (T (53 + 3 * k)) by omega) (show zrn s by omega), e9, hki1]
      rw [e]
      by_cases q1 : T (53 + 3 * k) = s
      · rw [if_pos q1]
        by_cases q2 : aSeat T k < 0
        · rw [if_pos q2, if_pos ⟨q1, q2⟩, show cE (k : Int) = k from if_neg (by omega)]
        · rw [if_neg q2, if_neg (fun z => q2 z.2)]; exact ih (k + 1) (by omega)
      · rw [if_neg q1, if_neg (fun z => q1 z.1)]; exact ih (k + 1) (by omega)
  rw [ez_39]
  exact key _ 0 (by omega)
theorem zm210 {d : Nat} {T : zS} {s : Int} {σ : zM} (w : wP T) (h0 : 0 ≤ T 0 ∧ T 0 ≤ 9) (hS : mS 61 T σ) (hs : 0 ≤ s ∧ s ≤ 1) : zev (d + 4) 210 [.inr (.inr (0, 60)), .inl (iI s)] σ = some (iI (aId T s ((T 2).toNat) 0), 0, σ) := by
  have p0 := w.1
  have p1 := w.2.1
  have key : ∀ n k, k + n = (T 2).toNat → zrun (zev (d + 3)) zT_210 2 [some (.inr (.inr (0, 60))), some (.inl (iI s)), some (.inl (iI k))] [] σ = some (iI (aId T s n k), 0, σ) := by
    intro n
    induction n with
    | zero =>
      intro k hk
      rw [ez_210_2, hS 2 (by decide), if_neg (by rw [iI_lt (by omega) (by omega)]; omega)]
      rfl
    | succ n ih =>
      intro k hk
      have w2 := w.2.2 k (by omega)
      have hr := aSeat_r w (show k < (T 2).toNat by omega)
      have e : aId T s (n + 1) k = if T (53 + 3 * k) = s ∧ aSeat T k < 0 then (k : Int) else aId T s n (k + 1) := rfl
      have e8 : zev (d + 3) 178 [.inr (.inr (0, 60)), .inl (iI k), .inl 1] σ = some (iI (T (53 + 3 * k)), 0, σ) := by
        have := zm178 (d := d + 1) (p := k) (w := 1) hS (by omega)
        rw [show 52 + 3 * k + 1 = 53 + 3 * k by omega] at this
        exact this
      rw [ez_210_2, hS 2 (by decide), if_pos (by rw [iI_lt (by omega) (by omega)]; omega)]
      simp only [e8, zm179 (d := d) hS (show k < 8 by omega), zbs, iI_eq (show zrn (T (53 + 3 * k)) by omega) (show zrn s by omega), iI_lt0 (show zrn (aSeat T k) by omega), hki1]
      rw [e]
      by_cases q1 : T (53 + 3 * k) = s
      · rw [if_pos q1]
        by_cases q2 : aSeat T k < 0
        · rw [if_pos q2, if_pos ⟨q1, q2⟩]
        · rw [if_neg q2, if_neg (fun z => q2 z.2)]; exact ih (k + 1) (by omega)
      · rw [if_neg q1, if_neg (fun z => q1 z.1)]; exact ih (k + 1) (by omega)
  rw [ez_210]
  exact key _ 0 (by omega)
def gWo (s v : Int) : Int := if v = 2 then 1 else if v = s then 2 else 0
def gBst (s : Int) (f : Nat → Int) (brk : Nat → Bool) : Nat → Nat → Int → Int
  | 0, _, b => b
  | n + 1, k, b => bif brk k then gBst s f brk n (k + 1) b else gBst s f brk n (k + 1) (if b < 0 then f k else if gWo s b < gWo s (f k) then f k else b)
theorem gBst_r {s : Int} {f : Nat → Int} {brk : Nat → Bool} (hf : ∀ k, 0 ≤ f k ∧ f k ≤ 2) : ∀ (n k : Nat) (b : Int), -1 ≤ b ∧ b ≤ 2 → -1 ≤ gBst s f brk n k b ∧ gBst s f brk n k b ≤ 2
  | 0, _, _, h => h
  | n + 1, k, b, h => by
    have := hf k
    show -1 ≤ (bif brk k then gBst s f brk n (k + 1) b else gBst s f brk n (k + 1) (if b < 0 then f k else if gWo s b < gWo s (f k) then f k else b)) ∧ (bif brk k then gBst s f brk n (k + 1) b else gBst s f brk n (k + 1) (if b < 0 then f k else if gWo s b < gWo s (f k) then f k else b)) ≤ 2
    cases brk k
    · rw [cond_false]
      refine gBst_r hf n (k + 1) _ ?_
      split
      · omega
      · split <;> omega
    · rw [cond_true]; exact gBst_r hf n (k + 1) b h
theorem gWo_2 {s v : Int} : gWo s v ≤ 2 := by
  unfold gWo
  split
  · omega
  · split <;> omega
theorem gBst_s {s : Int} {f : Nat → Int} {brk : Nat → Bool} (hs : 0 ≤ s ∧ s ≤ 1) : ∀ (n k : Nat), gBst s f brk n k s = s
  | 0, _ => rfl
  | n + 1, k => by
    have ih := gBst_s (f := f) (brk := brk) hs n (k + 1)
    show (bif brk k then gBst s f brk n (k + 1) s else gBst s f brk n (k + 1) (if s < 0 then f k else if gWo s s < gWo s (f k) then f k else s)) = s
    have h2 : gWo s s = 2 := by
      unfold gWo
      rw [if_neg (by omega), if_pos rfl]
    have := gWo_2 (s := s) (v := f k)
    rw [if_neg (by omega), if_neg (by omega), ih]
    cases brk k <;> rfl
def gV : Nat → zS → Int → Int
  | 0, _, _ => 2
  | n + 1, T, s => if aId T s ((T 2).toNat) 0 < 0 then 2 else if gBst s (fun b => bif aCk (aSit T (aId T s ((T 2).toNat) 0).toNat b) then 1 - s else gV n (aSit T (aId T s ((T 2).toNat) 0).toNat b) (1 - s)) (aBrk T) ((T 0).toNat) 0 (-1) < 0 then 2 else gBst s (fun b => bif aCk (aSit T (aId T s ((T 2).toNat) 0).toNat b) then 1 - s else gV n (aSit T (aId T s ((T 2).toNat) 0).toNat b) (1 - s)) (aBrk T) ((T 0).toNat) 0 (-1)
def gL (n : Nat) (T : zS) (s : Int) (p b : Nat) : Int := bif aCk (aSit T p b) then 1 - s else gV n (aSit T p b) (1 - s)
theorem gV_s {n : Nat} {T : zS} {s : Int} : gV (n + 1) T s = if aId T s ((T 2).toNat) 0 < 0 then 2 else if gBst s (gL n T s (aId T s ((T 2).toNat) 0).toNat) (aBrk T) ((T 0).toNat) 0 (-1) < 0 then 2 else gBst s (gL n T s (aId T s ((T 2).toNat) 0).toNat) (aBrk T) ((T 0).toNat) 0 (-1) := rfl
theorem gV_r : ∀ (n : Nat) (T : zS) (s : Int), 0 ≤ s ∧ s ≤ 1 → 0 ≤ gV n T s ∧ gV n T s ≤ 2
  | 0, _, _, _ => ⟨by show (0 : Int) ≤ 2; omega, by show (2 : Int) ≤ 2; omega⟩
  | n + 1, T, s, hs => by
    have h := gBst_r (s := s) (f := gL n T s (aId T s ((T 2).toNat) 0).toNat) (brk := aBrk T) (fun b => by
      have := gV_r n (aSit T (aId T s ((T 2).toNat) 0).toNat b) (1 - s) (by omega)
      unfold gL
      cases aCk (aSit T (aId T s ((T 2).toNat) 0).toNat b)
      · rw [cond_false]; exact this
      · rw [cond_true]; omega) ((T 0).toNat) 0 (-1) (by omega)
    rw [gV_s]
    split
    · omega
    · split <;> omega
theorem gL_r (n : Nat) (T : zS) (s : Int) (p b : Nat) (hs : 0 ≤ s ∧ s ≤ 1) : 0 ≤ gL n T s p b ∧ gL n T s p b ≤ 2 := by
  have := gV_r n (aSit T p b) (1 - s) (by omega)
  unfold gL
  cases aCk (aSit T p b)
  · rw [cond_false]; exact this
  · rw [cond_true]; omega
theorem zc74 {d n p b : Nat} {T : zS} {σ : zM} (IH : ∀ (T : zS) (s : Int) (σ : zM), 0 ≤ s ∧ s ≤ 1 → wA T → cA 3 T σ → cS 3 T (aSp T) σ → ∃ τ, zev (d + 6) 73 [.inr (.inr (0, 35)), .inl (iI s), .inl (iI n)] σ = some (iI (gV n T s), 0, τ) ∧ zFr (WG 3) σ τ ∧ cA 3 T τ ∧ cS 3 T (aSp T) τ) (w : wA T) (hA : cA 3 T σ) (hs : cS 3 T (aSp T) σ) (hn : n ≤ 4) (hp : p < (T 2).toNat) (h : aSeat T p < 0) (hb : b < (T 0).toNat) : ∃ τ, zev (d + 7) 74 [.inr (.inr (0, 35)), .inl (iI p), .inl (iI b), .inl (iI ((n + 1 : Nat) : Int))] σ = some (iI (gL n T (T (53 + 3 * p)) p b), 0, τ) ∧ zFr (WG 3) σ τ ∧ cA 3 T τ ∧ cS 3 T (aSp T) τ := by
  have p1 := w.2.2.1.2.1
  have w2 := w.2.2.1.2.2 p hp
  have hP := hA.2.2.2.1.2 p hp
  have b0 := w.1.1
  have b1 := w.1.2.1
  obtain ⟨τ, g1, g2, g3, g4, g5, g6⟩ := zcSit1 (d := d + 3) w hA hs hp h hb
  have g1 : zev (d + 6) 28 [.inr (.inr (3, 0)), .inl (iI b), .inl (iI (T (52 + 3 * p)))] (zwI σ 3 18 p (iI b)) = _ := g1
  have g6 : zev (d + 6) 29 [.inr (.inr (3, 0))] τ = _ := g6
  have fin : ∀ (υ : zM) (v : Int) (d3 d4 d6 : Option zV), zFr (WG 3) σ υ → cA 3 (aSit T p b) υ → cS 3 (aSit T p b) (aSp (aSit T p b)) υ → ∃ τ, zrun (zev (d + 6)) zT_74 79 [some (.inr (.inr (0, 35))), some (.inl (iI p)), some (.inl (iI b)), d3, d4, some (.inl (iI (T (52 + 3 * p)))), d6] [.inl (iI v)] υ = some (iI v, 0, τ) ∧ zFr (WG 3) σ τ ∧ cA 3 T τ ∧ cS 3 T (aSp T) τ := by
    intro υ v d3 d4 d6 f hA' hs'
    obtain ⟨τ', e1, e2, e3, e4⟩ := zcSit2 (d := d + 3) w g3 hA' hs' hp h hb
    have e1 : zev (d + 6) 28 [.inr (.inr (3, 0)), .inl (iI b), .inl (iI (-(T (52 + 3 * p))))] υ = _ := e1
    rw [ez_74_79, iI_neg', e1]
    simp only [zbs, zgd_t (iI_ink (z := p) (k := p) rfl (show p < 8 by omega) (by decide)), iI_Nn (show p ≤ 2147483647 by omega)]
    exact ⟨_, rfl, zFr_tt f e2, e3, e4⟩
  have i1 : ∀ z : Int, (1 : Int32) - iI z = iI (1 - z) := fun z => iI_sub 1 z
  have hn1 : iI ((n + 1 : Nat) : Int) - 1 = iI n := by
    show iI _ - iI 1 = _
    rw [iI_sub]; congr 1; omega
  rw [ez_74]
  simp only [zgd_t (iI_ink (z := p) (k := p) rfl (show p < 8 by omega) (by decide)), iI_Nn (show p ≤ 2147483647 by omega), hP.1, hP.2.1, g1, zbs, g6, zCk, i1, hn1]
  unfold gL
  cases q : aCk (aSit T p b)
  · obtain ⟨υ, c1, c2, c3, c4⟩ := IH (aSit T p b) (1 - T (53 + 3 * p)) τ (by omega) g3 g4 g5
    rw [cond_false, cond_false, c1]
    simp only [zbs]
    exact fin υ _ _ _ _ (zFr_tt g2 c2) c3 c4
  · rw [cond_true, cond_true]
    exact fin τ _ _ _ _ g2 g4 g5
theorem zc73 : ∀ (n d : Nat) (T : zS) (s : Int) (σ : zM), n ≤ 4 → 0 ≤ s ∧ s ≤ 1 → wA T → cA 3 T σ → cS 3 T (aSp T) σ → ∃ τ, zev (d + 2 * n + 6) 73 [.inr (.inr (0, 35)), .inl (iI s), .inl (iI n)] σ = some (iI (gV n T s), 0, τ) ∧ zFr (WG 3) σ τ ∧ cA 3 T τ ∧ cS 3 T (aSp T) τ
  | 0, d, T, s, σ, hn, hs, w, hA, hS => by
    have e39 := zc39 (d := d + 4) (s := s) w.2.2.1 ⟨w.1.1, w.1.2.1⟩ hA.2.2.2.1 hs
    show ∃ τ, zev (d + 5 + 1) 73 _ σ = _ ∧ _
    rw [ez_73]
    simp only [e39, zbs]
    rw [if_neg (by decide)]
    exact ⟨σ, rfl, zFr_r σ, hA, hS⟩
  | n + 1, d, T, s, σ, hn, hs, w, hA, hS => by
    have p0 := w.2.2.1.1
    have p1 := w.2.2.1.2.1
    have b0 := w.1.1
    have b1 := w.1.2.1
    have e39 : zev (d + 2 * n + 7) 39 [.inr (.inr (3, 15)), .inl (iI s)] σ = _ := zc39 (d := d + 2 * n + 6) (s := s) w.2.2.1 ⟨w.1.1, w.1.2.1⟩ hA.2.2.2.1 hs
    have hd : d + 2 * (n + 1) + 6 = d + 2 * n + 7 + 1 := by omega
    have i1 : (1 : Int32) - iI s = iI (1 - s) := iI_sub 1 s
    have hb := aId_b (T := T) (s := s) ((T 2).toNat) 0
    have e9 : (iI (cE (aId T s ((T 2).toNat) 0)) = -9) = (aId T s ((T 2).toNat) 0 < 0) := by
      have hr := aId_r (T := T) (s := s) ((T 2).toNat) 0
      have : aId T s ((T 2).toNat) 0 ≤ 8 := by
        rcases hr with h | ⟨p, h1, h2, -⟩ <;> omega
      rw [show (-9 : Int32) = iI (-9) by decide, iI_eq (by unfold cE; split <;> omega) (by decide)]
      unfold cE
      split
      · rename_i q; simp [q]
      · rename_i q; simp [q]; omega
    rw [hd, ez_73]
    simp only [e39, zbs, e9, i1]
    rw [if_pos (show (0 : Int32) < iI ((n + 1 : Nat) : Int) by rw [iI_0lt (by omega)]; omega), gV_s]
    by_cases q : aId T s ((T 2).toNat) 0 < 0
    · rw [if_pos q, if_pos q]
      exact ⟨σ, rfl, zFr_r σ, hA, hS⟩
    rw [if_neg q, if_neg q, show cE (aId T s ((T 2).toNat) 0) = aId T s ((T 2).toNat) 0 from if_neg q]
    obtain ⟨p, h1, h2, h3, h4⟩ := (aId_r (T := T) (s := s) ((T 2).toNat) 0).resolve_left q
    have h2 : p < (T 2).toNat := by omega
    rw [h1, Int.toNat_natCast]
    have key : ∀ (m k : Nat) (B : Int) (σ : zM) (d7 : Option zV), k + m = (T 0).toNat → -1 ≤ B ∧ B ≤ 2 → cA 3 T σ → cS 3 T (aSp T) σ → ∃ τ, zrun (zev (d + 2 * n + 7)) zT_73 35 [some (.inr (.inr (0, 35))), some (.inl (iI s)), some (.inl (iI ((n + 1 : Nat) : Int))), some (.inl (iI p)), some (.inl (if B < 0 then 0 else 1)), some (.inl (iI (if B < 0 then 1 - s else B))), some (.inl (iI k)), d7] [] σ = some (iI (if gBst s (gL n T s p) (aBrk T) m k B < 0 then 2 else gBst s (gL n T s p) (aBrk T) m k B), 0, τ) ∧ zFr (WG 3) σ τ ∧ cA 3 T τ ∧ cS 3 T (aSp T) τ := by
      intro m
      induction m with
      | zero =>
        intro k B σ d7 hk hB hA hS
        rw [ez_73_35, hA.1.1, if_neg (by rw [iI_lt (by omega) (by omega)]; omega)]
        refine ⟨σ, ?_, zFr_r σ, hA, hS⟩
        show _ = some (iI (if B < 0 then 2 else B), 0, σ)
        by_cases q : B < 0
        · rw [if_pos q, if_pos q, if_pos q, if_pos rfl]; rfl
        · rw [if_neg q, if_neg q, if_neg q, if_neg (by decide)]
      | succ m ih =>
        intro k B σ d7 hk hB hA hS
        have e5 : (iI (if B < 0 then 1 - s else B) = iI s) = (B = s) := by
          rw [iI_eq (by split <;> omega) (by omega)]
          split
          · simp only [eq_iff_iff]; omega
          · rfl
        rw [ez_73_35, hA.1.1, if_pos (by rw [iI_lt (by omega) (by omega)]; omega)]
        simp only [e5]
        by_cases q1 : B = s
        · rw [if_pos q1, if_neg (show ¬ B < 0 by omega), if_neg (show ¬ B < 0 by omega), if_neg (by decide), q1, gBst_s hs, if_neg (by omega)]
          exact ⟨σ, rfl, zFr_r σ, hA, hS⟩
        rw [if_neg q1]
        have e14 : zev (d + 2 * n + 7) 14 [.inr (.inr (3, 1)), .inl (iI k)] σ = some (zB (!aBrk T k), 0, σ) := by
          have := zc14 (d := d + 2 * n + 5) (z := (k : Int)) hA.1 hA.2.1 w.1 (by omega)
          rw [decide_eq_true (by omega), Bool.true_and, Int.toNat_natCast] at this
          exact this
        have eg : gBst s (gL n T s p) (aBrk T) (m + 1) k B = bif aBrk T k then gBst s (gL n T s p) (aBrk T) m (k + 1) B else gBst s (gL n T s p) (aBrk T) m (k + 1) (if B < 0 then gL n T s p k else if gWo s B < gWo s (gL n T s p k) then gL n T s p k else B) := rfl
        rw [eg]
        simp only [e14, zbs, zBi, hki1]
        cases q2 : aBrk T k
        case true =>
          rw [Bool.not_true, cond_false, cond_true]
          exact ih (k + 1) B σ none (by omega) hB hA hS
        case false =>
          rw [Bool.not_false, cond_true, cond_false]
          obtain ⟨τ, g1, g2, g3, g4⟩ := zc74 (d := d + 2 * n) (b := k) (fun T s σ a b c e => zc73 n d T s σ (by omega) a b c e) w hA hS (by omega) h2 h4 (by omega)
          rw [h3] at g1
          have g1 : zev (d + 2 * n + 7) 74 [.inr (.inr (0, 35)), .inl (iI p), .inl (iI k), .inl (iI ((n + 1 : Nat) : Int))] σ = _ := g1
          have hl := gL_r n T s p k hs
          rw [g1]
          simp only [zbs, i1, iI_eq (show zrn (gL n T s p k) by omega) (show zrn (1 - s) by omega)]
          have h1' : (1 : Int32) = if (1 : Int) < 0 then 0 else 1 := by decide
          by_cases q3 : gL n T s p k = 1 - s
          · have eB : (if B < 0 then gL n T s p k else if gWo s B < gWo s (gL n T s p k) then gL n T s p k else B) = if B < 0 then 1 - s else B := by
              by_cases q4 : B < 0
              · rw [if_pos q4, if_pos q4, q3]
              · rw [if_neg q4, if_neg q4, if_neg]
                rw [q3]
                have : gWo s (1 - s) = 0 := by
                  unfold gWo
                  rw [if_neg (by omega), if_neg (by omega)]
                have : 0 ≤ gWo s B := by
                  unfold gWo
                  repeat' split
                  all_goals omega
                omega
            rw [if_pos q3, eB]
            obtain ⟨υ, f1, f2, f3, f4⟩ := ih (k + 1) (if B < 0 then 1 - s else B) τ (some (.inl (iI (gL n T s p k)))) (by omega) (by split <;> omega) g3 g4
            have nB : ¬ (if B < 0 then 1 - s else B) < 0 := by split <;> omega
            rw [if_neg nB, if_neg nB] at f1
            exact ⟨υ, f1, zFr_tt g2 f2, f3, f4⟩
          · have eB : (if B < 0 then gL n T s p k else if gWo s B < gWo s (gL n T s p k) then gL n T s p k else B) = gL n T s p k := by
              by_cases q4 : B < 0
              · rw [if_pos q4]
              · rw [if_neg q4]
                by_cases q5 : gWo s B < gWo s (gL n T s p k)
                · rw [if_pos q5]
                · rw [if_neg q5]
                  by_cases a2 : B = 2
                  · by_cases b2 : gL n T s p k = 2
                    · omega
                    · exfalso; apply q5
                      unfold gWo
                      rw [if_pos a2, if_neg b2, if_pos (by omega)]; omega
                  · exfalso; apply q5
                    have : gWo s B = 0 := by
                      unfold gWo
                      rw [if_neg a2, if_neg q1]
                    rw [this]
                    unfold gWo
                    split
                    · omega
                    · rw [if_pos (by omega)]; omega
            rw [if_neg q3, eB]
            obtain ⟨υ, f1, f2, f3, f4⟩ := ih (k + 1) (gL n T s p k) τ (some (.inl (iI (gL n T s p k)))) (by omega) (by omega) g3 g4
            have nB : ¬ gL n T s p k < 0 := by omega
            rw [if_neg nB, if_neg nB] at f1
            exact ⟨υ, f1, zFr_tt g2 f2, f3, f4⟩
    exact key ((T 0).toNat) 0 (-1) σ none (by omega) (by omega) hA hS
abbrev WGm : Nat → Nat → Nat → Prop := fun g k _ => g = 0 ∧ (k = 61 ∨ k = 66)
theorem zm212 {d n p b : Nat} {T : zS} {σ : zM} (IH : ∀ (T : zS) (s : Int) (σ : zM), 0 ≤ s ∧ s ≤ 1 → wA T → mS 61 T σ → mR 65 T (aHold T) σ → ∃ τ, zev (d + 8) 213 [.inr (.inr (0, 60)), .inl (iI s), .inl (iI n)] σ = some (iI (gV n T s), 0, τ) ∧ zFr WGm σ τ ∧ mS 61 T τ) (w : wA T) (hS : mS 61 T σ) (hh : mR 65 T (aHold T) σ) (hn : n ≤ 4) (hp : p < (T 2).toNat) (h : aSeat T p < 0) (hb : b < (T 0).toNat) : ∃ τ, zev (d + 9) 212 [.inr (.inr (0, 60)), .inl (iI (T (53 + 3 * p))), .inl (iI ((n + 1 : Nat) : Int)), .inl (iI p), .inl (iI b)] σ = some (iI (gL n T (T (53 + 3 * p)) p b), 0, τ) ∧ zFr WGm σ τ ∧ mS 61 T τ := by
  have p1 := w.2.2.1.2.1
  have w2 := w.2.2.1.2.2 p hp
  have b0 := w.1.1
  have b1 := w.1.2.1
  have wT : wA (aSit T p b) := aSit_w w hp (by omega)
  have e0 : aSit T p b 0 = T 0 := aSit_n (by omega)
  have i1 : ∀ z : Int, (1 : Int32) - iI z = iI (1 - z) := fun z => iI_sub 1 z
  have hn1 : iI ((n + 1 : Nat) : Int) - 1 = iI n := by
    show iI _ - iI 1 = _
    rw [iI_sub]; congr 1; omega
  have e180 : zev (d + 8) 180 [.inr (.inr (0, 60)), .inl (iI p), .inl (iI b)] σ = some (0, 0, zwI σ 0 61 (54 + 3 * p) (iI ((b : Int) + 1))) := zm180 (d := d + 6) (by omega)
  have hS1 : mS 61 (aSit T p b) (zwI σ 0 61 (54 + 3 * p) (iI ((b : Int) + 1))) := mS_up hS
  have hh1 : mR 65 (aSit T p b) (aHold (aSit T p b)) (zwI σ 0 61 (54 + 3 * p) (iI ((b : Int) + 1))) := fun u hu => by
    rw [e0] at hu
    rw [zfe (by omega), aSit_hold (by omega) (by omega)]; exact hh u hu
  obtain ⟨τ, g1, g2⟩ := zm171 (d := d) hS1 wT hh1
  have hS2 : mS 61 (aSit T p b) τ := mS_f hS1 (zFr_f g2 (fun i => by omega))
  have hh2 : mR 65 (aSit T p b) (aHold (aSit T p b)) τ := mR_f hh1 (zFr_f g2 (fun i => by omega))
  have fin : ∀ υ : zM, mS 61 (aSit T p b) υ → zFr WGm σ υ → ∃ τ, zev (d + 8) 180 [.inr (.inr (0, 60)), .inl (iI p), .inl (-1)] υ = some (0, 0, τ) ∧ zFr WGm σ τ ∧ mS 61 T τ := by
    intro υ hυ f
    have e : zev (d + 8) 180 [.inr (.inr (0, 60)), .inl (iI p), .inl (iI (-1))] υ = some (0, 0, zwI υ 0 61 (54 + 3 * p) (iI (-1 + 1))) := zm180 (d := d + 6) (z := -1) (by omega)
    have hb' := mS_up (i := 54 + 3 * p) (v := -1 + 1) hυ
    rw [show zup (aSit T p b) (54 + 3 * p) (-1 + 1) = T from aSit_back (aSeat_0 w.2.2.1 hp h)] at hb'
    exact ⟨_, e, zFr_tt f (zFr_w (by omega)), hb'⟩
  have f0 : zFr WGm σ τ := zFr_tt (zFr_w (by omega)) (zFr_i g2 fun _ _ _ q => by omega)
  rw [ez_212]
  simp only [e180, zbs, g1, i1, hn1, zBi]
  unfold gL
  cases q : aCk (aSit T p b)
  · obtain ⟨υ, c1, c2, c3⟩ := IH (aSit T p b) (1 - T (53 + 3 * p)) τ (by omega) wT hS2 hh2
    obtain ⟨υ2, e1, e2, e3⟩ := fin υ c3 (zFr_tt f0 c2)
    rw [Bool.not_false, cond_true, cond_false, c1]
    simp only [zbs, e1]
    exact ⟨υ2, rfl, e2, e3⟩
  · obtain ⟨υ2, e1, e2, e3⟩ := fin τ hS2 f0
    rw [Bool.not_true, cond_false, cond_true, e1]
    simp only [zbs]
    exact ⟨υ2, rfl, e2, e3⟩
theorem zm211 {d : Nat} {s v : Int} {σ : zM} (hs : 0 ≤ s ∧ s ≤ 1) (hv : 0 ≤ v ∧ v ≤ 2) : zev (d + 1) 211 [.inl (iI s), .inl (iI v)] σ = some (iI (gWo s v), 0, σ) := by
  have e2 : (iI v = 2) = (v = 2) := iI_eq (b := 2) (by omega) (by decide)
  rw [ez_211]
  simp only [e2, iI_eq (show zrn v by omega) (show zrn s by omega)]
  unfold gWo
  split
  · rfl
  · split <;> rfl
theorem zm213 : ∀ (n d : Nat) (T : zS) (s : Int) (σ : zM), n ≤ 4 → 0 ≤ s ∧ s ≤ 1 → wA T → mS 61 T σ → mR 65 T (aHold T) σ → ∃ τ, zev (d + 2 * n + 8) 213 [.inr (.inr (0, 60)), .inl (iI s), .inl (iI n)] σ = some (iI (gV n T s), 0, τ) ∧ zFr WGm σ τ ∧ mS 61 T τ
  | 0, d, T, s, σ, hn, hs, w, hS, hh => by
    have b0 := w.1.1
    have b1 := w.1.2.1
    show ∃ τ, zev (d + 7 + 1) 213 _ σ = _ ∧ _
    rw [ez_213]
    simp only
    rw [if_pos (show iI ((0 : Nat) : Int) = 0 from rfl), ez_213_20, hS 0 (by decide)]
    rw [if_pos (show (-1 : Int32) < 0 by decide), if_pos (show (-1 : Int32) < 0 by decide)]
    refine ⟨σ, ?_, zFr_r σ, hS⟩
    split <;> rfl
  | n + 1, d, T, s, σ, hn, hs, w, hS, hh => by
    have p0 := w.2.2.1.1
    have p1 := w.2.2.1.2.1
    have b0 := w.1.1
    have b1 := w.1.2.1
    have e10 : zev (d + 2 * n + 9) 210 [.inr (.inr (0, 60)), .inl (iI s)] σ = _ := zm210 (d := d + 2 * n + 5) (s := s) w.2.2.1 ⟨w.1.1, w.1.2.1⟩ hS hs
    have hd : d + 2 * (n + 1) + 8 = d + 2 * n + 9 + 1 := by omega
    have hb := aId_b (T := T) (s := s) ((T 2).toNat) 0
    have hr := aId_r (T := T) (s := s) ((T 2).toNat) 0
    have h8 : aId T s ((T 2).toNat) 0 ≤ 8 := by
      rcases hr with h | ⟨p, h1, h2, -⟩ <;> omega
    rw [hd, ez_213]
    simp only [e10, zbs]
    rw [if_neg (show ¬ iI ((n + 1 : Nat) : Int) = 0 by rw [iI_0 (by omega)]; omega), gV_s]
    by_cases q : aId T s ((T 2).toNat) 0 < 0
    · rw [if_pos q, ez_213_20, if_pos (show iI (aId T s ((T 2).toNat) 0) < 0 by rw [iI_lt0 (by omega)]; exact q), if_pos (show (-1 : Int32) < 0 by decide)]
      refine ⟨σ, ?_, zFr_r σ, hS⟩
      split <;> rfl
    rw [if_neg q]
    obtain ⟨p, h1, h2, h3, h4⟩ := hr.resolve_left q
    have h2 : p < (T 2).toNat := by omega
    rw [h1, Int.toNat_natCast]
    have key : ∀ (m k : Nat) (B : Int) (σ : zM) (d6 : Option zV), k + m = (T 0).toNat → -1 ≤ B ∧ B ≤ 2 → mS 61 T σ → mR 65 T (aHold T) σ → ∃ τ, zrun (zev (d + 2 * n + 9)) zT_213 20 [some (.inr (.inr (0, 60))), some (.inl (iI s)), some (.inl (iI ((n + 1 : Nat) : Int))), some (.inl (iI p)), some (.inl (iI B)), some (.inl (iI k)), d6] [] σ = some (iI (if gBst s (gL n T s p) (aBrk T) m k B < 0 then 2 else gBst s (gL n T s p) (aBrk T) m k B), 0, τ) ∧ zFr WGm σ τ ∧ mS 61 T τ := by
      intro m
      induction m with
      | zero =>
        intro k B σ d6 hk hB hS hh
        rw [ez_213_20, hS 0 (by decide), if_neg (by rw [iI_lt (by omega) (by omega)]; omega)]
        refine ⟨σ, ?_, zFr_r σ, hS⟩
        show _ = some (iI (if B < 0 then 2 else B), 0, σ)
        simp only [iI_lt0 (show zrn B by omega)]
        by_cases q : B < 0
        · rw [if_pos q, if_pos q]; rfl
        · rw [if_neg q, if_neg q]
      | succ m ih =>
        intro k B σ d6 hk hB hS hh
        have hk9 : k < (T 0).toNat := by omega
        have wb := w.1.2.2 k hk9
        have e57 : zev (d + 2 * n + 9) 157 [.inr (.inr (0, 60)), .inl (iI k)] σ = some (zB (aBrk T k), 0, σ) := zm157 (d := d + 2 * n + 6) hS (by omega) (by omega)
        have eg : gBst s (gL n T s p) (aBrk T) (m + 1) k B = bif aBrk T k then gBst s (gL n T s p) (aBrk T) m (k + 1) B else gBst s (gL n T s p) (aBrk T) m (k + 1) (if B < 0 then gL n T s p k else if gWo s B < gWo s (gL n T s p k) then gL n T s p k else B) := rfl
        rw [eg, ez_213_20, hS 0 (by decide), if_pos (by rw [iI_lt (by omega) (by omega)]; omega), if_neg (by rw [iI_lt0 (by omega)]; omega)]
        simp only [e57, zbs, zBi, hki1, iI_lt0 (show zrn B by omega)]
        cases q2 : aBrk T k
        case true =>
          rw [cond_true, cond_true]
          exact ih (k + 1) B σ none (by omega) hB hS hh
        case false =>
          rw [cond_false, cond_false]
          obtain ⟨τ, g1, g2, g3⟩ := zm212 (d := d + 2 * n) (b := k) (fun T s σ a b c e => zm213 n d T s σ (by omega) a b c e) w hS hh (by omega) h2 h4 hk9
          rw [h3] at g1
          have g1 : zev (d + 2 * n + 9) 212 [.inr (.inr (0, 60)), .inl (iI s), .inl (iI ((n + 1 : Nat) : Int)), .inl (iI p), .inl (iI k)] σ = _ := g1
          have hh3 : mR 65 T (aHold T) τ := mR_f hh (zFr_f g2 (fun i => by omega))
          have hl := gL_r n T s p k hs
          rw [g1]
          simp only [zbs]
          by_cases q4 : B < 0
          · rw [if_pos q4, if_pos q4]
            obtain ⟨υ, f1, f2, f3⟩ := ih (k + 1) (gL n T s p k) τ (some (.inl (iI (gL n T s p k)))) (by omega) (by omega) g3 hh3
            exact ⟨υ, f1, zFr_tt g2 f2, f3⟩
          · have e1 : zev (d + 2 * n + 9) 211 [.inl (iI s), .inl (iI (gL n T s p k))] τ = _ := zm211 (d := d + 2 * n + 8) hs hl
            have e2 : zev (d + 2 * n + 9) 211 [.inl (iI s), .inl (iI B)] τ = _ := zm211 (d := d + 2 * n + 8) hs (by omega)
            have r1 : -1 ≤ gWo s B ∧ gWo s B ≤ 2 := by
              refine ⟨?_, gWo_2⟩
              unfold gWo
              repeat' split
              all_goals omega
            have r2 : -1 ≤ gWo s (gL n T s p k) ∧ gWo s (gL n T s p k) ≤ 2 := by
              refine ⟨?_, gWo_2⟩
              unfold gWo
              repeat' split
              all_goals omega
            rw [if_neg q4, if_neg q4, e1]
            simp only [zbs, e2, iI_lt (show zrn (gWo s B) by omega) (show zrn (gWo s (gL n T s p k)) by omega)]
            by_cases q5 : gWo s B < gWo s (gL n T s p k)
            · rw [if_pos q5, if_pos q5]
              obtain ⟨υ, f1, f2, f3⟩ := ih (k + 1) (gL n T s p k) τ (some (.inl (iI (gL n T s p k)))) (by omega) (by omega) g3 hh3
              exact ⟨υ, f1, zFr_tt g2 f2, f3⟩
            · rw [if_neg q5, if_neg q5]
              obtain ⟨υ, f1, f2, f3⟩ := ih (k + 1) B τ (some (.inl (iI (gL n T s p k)))) (by omega) (by omega) g3 hh3
              exact ⟨υ, f1, zFr_tt g2 f2, f3⟩
    exact key ((T 0).toNat) 0 (-1) σ none (by omega) (by omega) hS hh
theorem zc71 {d n : Nat} {S : zS} {s : Int} {σ : zM} (w : wA S) (hA : cA 0 S σ) (hs : 0 ≤ s ∧ s ≤ 1) (hn : n ≤ 4) : ∃ τ, zev (d + 2 * n + 7) 71 [.inr (.inr (0, 35)), .inr (.inr (0, 0)), .inl (iI s), .inl (iI n)] σ = some (iI (gV n S s), 0, τ) ∧ zFr (WG 3) σ τ ∧ cA 3 S τ ∧ cS 3 S (aSp S) τ := by
  obtain ⟨τ, g1, g2, g3⟩ := zc25 (d := d + 2 * n + 1) (g := 3) (h := 0) (by decide) w hA
  have g1 : zev (d + 2 * n + 6) 25 [.inr (.inr (3, 0)), .inr (.inr (0, 0))] σ = _ := g1
  obtain ⟨τ2, f1, f2, f3, f4, -⟩ := zc27k (d := d + 2 * n + 1) g3 w
  have f1 : zev (d + 2 * n + 6) 27 [.inr (.inr (3, 0))] τ = _ := f1
  obtain ⟨υ, e1, e2, e3, e4⟩ := zc73 n d S s τ2 hn hs w f3 f4
  rw [ez_71]
  simp only [g1, f1, e1, zbs]
  exact ⟨υ, rfl, zFr_tt g2 (zFr_tt (zFr_i f2 fun _ _ _ q => by omega) e2), e3, e4⟩
theorem zm214 {d : Nat} {s n : Int} {σ : zM} (hs : zrn s) (hn : zrn n) : zev (d + 2) 214 [.inl (iI s), .inl (iI n)] σ = some (zB (decide ((0 ≤ s ∧ s ≤ 1) ∧ (1 ≤ n ∧ n ≤ 4))), 0, σ) := by
  have m1 : zev (d + 1) 149 [.inr (.inl (Int32.toInt64 (iI s))), .inr (.inl 0), .inr (.inl 1)] σ = some (zB (decide (0 ≤ s ∧ s ≤ 1)), 0, σ) := zm149k (l := 0) (h := 1) hs (by decide) (by decide)
  have m2 : zev (d + 1) 149 [.inr (.inl (Int32.toInt64 (iI n))), .inr (.inl 1), .inr (.inl 4)] σ = some (zB (decide (1 ≤ n ∧ n ≤ 4)), 0, σ) := zm149k (l := 1) (h := 4) hn (by decide) (by decide)
  rw [ez_214]
  simp only [m1, m2, zbs, zBi]
  by_cases q1 : 0 ≤ s ∧ s ≤ 1
  · by_cases q2 : 1 ≤ n ∧ n ≤ 4
    · rw [decide_eq_true q1, decide_eq_true q2, cond_true, cond_true, zgd_t (by decide), decide_eq_true ⟨q1, q2⟩]; rfl
    · rw [decide_eq_true q1, decide_eq_false q2, cond_true, cond_false, zgd_t (by decide), decide_eq_false (fun z => q2 z.2)]; rfl
  · rw [decide_eq_false q1, cond_false, zgd_t (by decide), decide_eq_false (fun z => q1 z.1)]; rfl
theorem zx_112 {x : zXx} (w : WX x) (s n : Int) (hs : zrn s) (hn : zrn n) : zCall 112 215 [.inl (iI s), .inl (iI n)] x := by
  have c141 : ∀ {σ : zM}, zev 63 141 [.inl (iI n), .inl 1, .inl 4] σ = some (zB (decide (1 ≤ n ∧ n ≤ 4)), 0, σ) := zc141 (l := 1) (h := 4) hn (by decide) (by decide)
  by_cases q1 : 0 ≤ s ∧ s ≤ 1
  case neg =>
    refine zCq (-1) w (fun σ h => ?_) (fun σ h => ?_)
    · rw [ez_112]
      simp only [zc143 hs, zbs, zBi, decide_eq_false q1, cond_false]
      exact ⟨σ, rfl, zFr_r σ⟩
    · rw [ez_215]
      simp only [zm214 (d := 61) hs hn, zbs, zBi, decide_eq_false (show ¬ ((0 ≤ s ∧ s ≤ 1) ∧ (1 ≤ n ∧ n ≤ 4)) from fun z => q1 z.1), cond_false]
      exact ⟨σ, rfl, zFr_r σ, h.1⟩
  by_cases q2 : 1 ≤ n ∧ n ≤ 4
  case neg =>
    refine zCq (-1) w (fun σ h => ?_) (fun σ h => ?_)
    · rw [ez_112]
      simp only [zc143 hs, c141, zbs, zBi, decide_eq_true q1, cond_true, decide_eq_false q2, cond_false]
      exact ⟨σ, rfl, zFr_r σ⟩
    · rw [ez_215]
      simp only [zm214 (d := 61) hs hn, zbs, zBi, decide_eq_false (show ¬ ((0 ≤ s ∧ s ≤ 1) ∧ (1 ≤ n ∧ n ≤ 4)) from fun z => q2 z.2), cond_false]
      exact ⟨σ, rfl, zFr_r σ, h.1⟩
  obtain ⟨m, rfl⟩ := zint (show 0 ≤ n by omega)
  have hm : m ≤ 4 := by omega
  refine zCq (iI (gV m x.1 s)) w (fun σ h => ?_) (fun σ h => ?_)
  · obtain ⟨τ, g1, g2, -, -⟩ := zc71 (d := 56 - 2 * m) (n := m) (s := s) w.1 h.1 q1 hm
    rw [show 56 - 2 * m + 2 * m + 7 = 63 by omega] at g1
    rw [ez_112]
    simp only [zc143 hs, c141, zbs, zBi, decide_eq_true q1, cond_true, decide_eq_true q2, g1]
    exact ⟨τ, rfl, zFr_i g2 fun _ _ _ q => by omega⟩
  · obtain ⟨τ, g1, g2, g3, g4⟩ := zm166c (d := 57) h.1 w.1
    have g1 : zev 63 166 [.inr (.inr (0, 60))] σ = _ := g1
    obtain ⟨υ, f1, f2, f3⟩ := zm213 m (55 - 2 * m) x.1 s τ hm q1 w.1 g3 g4
    rw [show 55 - 2 * m + 2 * m + 8 = 63 by omega] at f1
    rw [ez_215]
    simp only [zm214 (d := 61) hs hn, zbs, zBi, decide_eq_true (show ((0 ≤ s ∧ s ≤ 1) ∧ (1 ≤ (m : Int) ∧ (m : Int) ≤ 4)) from ⟨q1, q2⟩), cond_true, g1, f1]
    exact ⟨υ, rfl, zFr_tt g2 (zFr_i f2 fun _ _ _ q => by omega), f3⟩
def gMv (n : Nat) (T : zS) (s : Int) (p : Nat) (v : Int) : Nat → Nat → Int
  | 0, _ => -3
  | m + 1, k => bif aBrk T k then gMv n T s p v m (k + 1) else if gL n T s p k = v then k else gMv n T s p v m (k + 1)
theorem zx_113 {x : zXx} (w : WX x) (s n : Int) (hs : zrn s) (hn : zrn n) : zCall 113 216 [.inl (iI s), .inl (iI n)] x := by
  have c141 : ∀ {σ : zM}, zev 63 141 [.inl (iI n), .inl 1, .inl 4] σ = some (zB (decide (1 ≤ n ∧ n ≤ 4)), 0, σ) := zc141 (l := 1) (h := 4) hn (by decide) (by decide)
  by_cases q1 : 0 ≤ s ∧ s ≤ 1
  case neg =>
    refine zCq (-1) w (fun σ h => ?_) (fun σ h => ?_)
    · rw [ez_113]
      simp only [zc143 hs, zbs, zBi, decide_eq_false q1, cond_false]
      exact ⟨σ, rfl, zFr_r σ⟩
    · rw [ez_216]
      simp only [zm214 (d := 61) hs hn, zbs, zBi, decide_eq_false (show ¬ ((0 ≤ s ∧ s ≤ 1) ∧ (1 ≤ n ∧ n ≤ 4)) from fun z => q1 z.1), cond_false]
      exact ⟨σ, rfl, zFr_r σ, h.1⟩
  by_cases q2 : 1 ≤ n ∧ n ≤ 4
  case neg =>
    refine zCq (-1) w (fun σ h => ?_) (fun σ h => ?_)
    · rw [ez_113]
      simp only [zc143 hs, c141, zbs, zBi, decide_eq_true q1, cond_true, decide_eq_false q2, cond_false]
      exact ⟨σ, rfl, zFr_r σ⟩
    · rw [ez_216]
      simp only [zm214 (d := 61) hs hn, zbs, zBi, decide_eq_false (show ¬ ((0 ≤ s ∧ s ≤ 1) ∧ (1 ≤ n ∧ n ≤ 4)) from fun z => q2 z.2), cond_false]
      exact ⟨σ, rfl, zFr_r σ, h.1⟩
  obtain ⟨m', hm'⟩ := zint (show 0 ≤ n - 1 by omega)
  obtain rfl : n = ((m' + 1 : Nat) : Int) := by omega
  have hm : m' + 1 ≤ 4 := by omega
  have wT := w.1
  have p0 := wT.2.2.1.1
  have p1 := wT.2.2.1.2.1
  have b0 := wT.1.1
  have b1 := wT.1.2.1
  have hb := aId_b (T := x.1) (s := s) ((x.1 2).toNat) 0
  have hr := aId_r (T := x.1) (s := s) ((x.1 2).toNat) 0
  have h8 : aId x.1 s ((x.1 2).toNat) 0 ≤ 8 := by
    rcases hr with h | ⟨p, h1, h2, -⟩ <;> omega
  have hv := gV_r (m' + 1) x.1 s q1
  refine zCq (if aId x.1 s ((x.1 2).toNat) 0 < 0 then -3 else iI (gMv m' x.1 s (aId x.1 s ((x.1 2).toNat) 0).toNat (gV (m' + 1) x.1 s) ((x.1 0).toNat) 0)) w (fun σ h => ?_) (fun σ h => ?_)
  · obtain ⟨τ, g1, g2, g3, g4⟩ := zc71 (d := 55 - 2 * (m' + 1)) (n := m' + 1) (s := s) wT h.1 q1 hm
    rw [show 55 - 2 * (m' + 1) + 2 * (m' + 1) + 7 = 62 by omega] at g1
    have e39 : zev 62 39 [.inr (.inr (3, 15)), .inl (iI s)] τ = _ := zc39 (d := 61) (s := s) wT.2.2.1 ⟨b0, b1⟩ g3.2.2.2.1 q1
    have e9 : (iI (cE (aId x.1 s ((x.1 2).toNat) 0)) = -9) = (aId x.1 s ((x.1 2).toNat) 0 < 0) := by
      rw [show (-9 : Int32) = iI (-9) by decide, iI_eq (by unfold cE; split <;> omega) (by decide)]
      unfold cE
      split
      · rename_i q; simp [q]
      · rename_i q; simp [q]; omega
    have e72 : ∃ υ, zev 63 72 [.inr (.inr (0, 35)), .inr (.inr (0, 0)), .inl (iI s), .inl (iI ((m' + 1 : Nat) : Int))] σ = some (if aId x.1 s ((x.1 2).toNat) 0 < 0 then -3 else iI (gMv m' x.1 s (aId x.1 s ((x.1 2).toNat) 0).toNat (gV (m' + 1) x.1 s) ((x.1 0).toNat) 0), 0, υ) ∧ zFr (WG 3) σ υ := by
      rw [ez_72]
      simp only [g1, e39, zbs, e9]
      by_cases q : aId x.1 s ((x.1 2).toNat) 0 < 0
      · rw [if_pos q, if_pos q]
        exact ⟨τ, rfl, g2⟩
      rw [if_neg q, if_neg q, show cE (aId x.1 s ((x.1 2).toNat) 0) = aId x.1 s ((x.1 2).toNat) 0 from if_neg q]
      obtain ⟨p, h1, h2, h3, h4⟩ := hr.resolve_left q
      have h2 : p < (x.1 2).toNat := by omega
      rw [h1, Int.toNat_natCast]
      have key : ∀ (m k : Nat) (τ : zM) (d1 d2 : Option zV), k + m = (x.1 0).toNat → cA 3 x.1 τ → cS 3 x.1 (aSp x.1) τ → ∃ υ, zrun (zev 62) zT_72 35 [some (.inr (.inr (0, 35))), d1, d2, some (.inl (iI ((m' + 1 : Nat) : Int))), some (.inl (iI (gV (m' + 1) x.1 s))), some (.inl (iI p)), some (.inl (iI k))] [] τ = some (iI (gMv m' x.1 s p (gV (m' + 1) x.1 s) m k), 0, υ) ∧ zFr (WG 3) τ υ := by
        intro m
        induction m with
        | zero =>
          intro k τ d1 d2 hk hA hS
          rw [ez_72_35, hA.1.1, if_neg (by rw [iI_lt (by omega) (by omega)]; omega)]
          exact ⟨τ, rfl, zFr_r τ⟩
        | succ m ih =>
          intro k τ d1 d2 hk hA hS
          have e14 : zev 62 14 [.inr (.inr (3, 1)), .inl (iI k)] τ = some (zB (!aBrk x.1 k), 0, τ) := by
            have := zc14 (d := 60) (z := (k : Int)) hA.1 hA.2.1 wT.1 (by omega)
            rw [decide_eq_true (by omega), Bool.true_and, Int.toNat_natCast] at this
            exact this
          have eg : gMv m' x.1 s p (gV (m' + 1) x.1 s) (m + 1) k = bif aBrk x.1 k then gMv m' x.1 s p (gV (m' + 1) x.1 s) m (k + 1) else if gL m' x.1 s p k = gV (m' + 1) x.1 s then (k : Int) else gMv m' x.1 s p (gV (m' + 1) x.1 s) m (k + 1) := rfl
          rw [eg, ez_72_35, hA.1.1, if_pos (by rw [iI_lt (by omega) (by omega)]; omega)]
          simp only [e14, zbs, zBi, hki1]
          cases q2 : aBrk x.1 k
          case true =>
            rw [Bool.not_true, cond_false, cond_true]
            exact ih (k + 1) τ none none (by omega) hA hS
          case false =>
            obtain ⟨υ, f1, f2, f3, f4⟩ := zc74 (d := 55) (b := k) (fun T s σ a b c e => by
              obtain ⟨τ, y1, y2⟩ := zc73 m' (55 - 2 * m') T s σ (by omega) a b c e
              rw [show 55 - 2 * m' + 2 * m' + 6 = 55 + 6 by omega] at y1
              exact ⟨τ, y1, y2⟩) wT hA hS (by omega) h2 h4 (by omega)
            rw [h3] at f1
            have f1 : zev 62 74 [.inr (.inr (0, 35)), .inl (iI p), .inl (iI k), .inl (iI ((m' + 1 : Nat) : Int))] τ = _ := f1
            have hl := gL_r m' x.1 s p k q1
            rw [Bool.not_false, cond_true, cond_false, f1]
            simp only [zbs, iI_eq (show zrn (gL m' x.1 s p k) by omega) (show zrn (gV (m' + 1) x.1 s) by omega)]
            by_cases q5 : gL m' x.1 s p k = gV (m' + 1) x.1 s
            · rw [if_pos q5, if_pos q5]
              exact ⟨υ, rfl, f2⟩
            · rw [if_neg q5, if_neg q5]
              obtain ⟨υ2, y1, y2⟩ := ih (k + 1) υ none none (by omega) f3 f4
              exact ⟨υ2, y1, zFr_tt f2 y2⟩
      obtain ⟨υ, y1, y2⟩ := key ((x.1 0).toNat) 0 τ _ _ (by omega) g3 g4
      exact ⟨υ, y1, zFr_tt g2 y2⟩
    obtain ⟨υ, y1, y2⟩ := e72
    rw [ez_113]
    simp only [zc143 hs, c141, zbs, zBi, decide_eq_true q1, cond_true, decide_eq_true q2, y1]
    exact ⟨υ, rfl, zFr_i y2 fun _ _ _ q => by omega⟩
  · obtain ⟨τ, g1, g2, g3, g4⟩ := zm166c (d := 57) h.1 w.1
    have g1 : zev 63 166 [.inr (.inr (0, 60))] σ = _ := g1
    obtain ⟨υ, f1, f2, f3⟩ := zm213 (m' + 1) (55 - 2 * (m' + 1)) x.1 s τ hm q1 w.1 g3 g4
    rw [show 55 - 2 * (m' + 1) + 2 * (m' + 1) + 8 = 63 by omega] at f1
    have f4 : mR 65 x.1 (aHold x.1) υ := mR_f g4 (zFr_f f2 (fun i => by omega))
    have e10 : zev 63 210 [.inr (.inr (0, 60)), .inl (iI s)] υ = _ := zm210 (d := 59) (s := s) wT.2.2.1 ⟨b0, b1⟩ f3 q1
    have fr : zFr WM σ υ := zFr_tt g2 (zFr_i f2 fun _ _ _ q => by omega)
    rw [ez_216]
    simp only [zm214 (d := 61) hs hn, zbs, zBi, decide_eq_true (show ((0 ≤ s ∧ s ≤ 1) ∧ (1 ≤ ((m' + 1 : Nat) : Int) ∧ ((m' + 1 : Nat) : Int) ≤ 4)) from ⟨q1, q2⟩), cond_true, g1, f1, e10]
    by_cases q : aId x.1 s ((x.1 2).toNat) 0 < 0
    · rw [if_pos q, ez_216_31, f3 0 (by decide), if_pos (show iI (aId x.1 s ((x.1 2).toNat) 0) < 0 by rw [iI_lt0 (by omega)]; exact q)]
      refine ⟨υ, ?_, fr, f3⟩
      split <;> rfl
    rw [if_neg q]
    obtain ⟨p, h1, h2, h3, h4⟩ := hr.resolve_left q
    have h2 : p < (x.1 2).toNat := by omega
    rw [h1, Int.toNat_natCast]
    have key : ∀ (m k : Nat) (τ : zM), k + m = (x.1 0).toNat → mS 61 x.1 τ → mR 65 x.1 (aHold x.1) τ → ∃ υ, zrun (zev 63) zT_216 31 [some (.inr (.inr (0, 60))), some (.inl (iI s)), some (.inl (iI ((m' + 1 : Nat) : Int))), some (.inl (iI (gV (m' + 1) x.1 s))), some (.inl (iI p)), some (.inl (iI k))] [] τ = some (iI (gMv m' x.1 s p (gV (m' + 1) x.1 s) m k), 0, υ) ∧ zFr WGm τ υ ∧ mS 61 x.1 υ := by
      intro m
      induction m with
      | zero =>
        intro k τ hk hS hh
        rw [ez_216_31, hS 0 (by decide), if_neg (by rw [iI_lt (by omega) (by omega)]; omega)]
        exact ⟨τ, rfl, zFr_r τ, hS⟩
      | succ m ih =>
        intro k τ hk hS hh
        have hk9 : k < (x.1 0).toNat := by omega
        have wb := wT.1.2.2 k hk9
        have e57 : zev 63 157 [.inr (.inr (0, 60)), .inl (iI k)] τ = some (zB (aBrk x.1 k), 0, τ) := zm157 (d := 60) hS (by omega) (by omega)
        have eg : gMv m' x.1 s p (gV (m' + 1) x.1 s) (m + 1) k = bif aBrk x.1 k then gMv m' x.1 s p (gV (m' + 1) x.1 s) m (k + 1) else if gL m' x.1 s p k = gV (m' + 1) x.1 s then (k : Int) else gMv m' x.1 s p (gV (m' + 1) x.1 s) m (k + 1) := rfl
        rw [eg, ez_216_31, hS 0 (by decide), if_pos (by rw [iI_lt (by omega) (by omega)]; omega), if_neg (by rw [iI_lt0 (by omega)]; omega)]
        simp only [e57, zbs, zBi, hki1]
        cases q2 : aBrk x.1 k
        case true =>
          rw [cond_true, cond_true]
          exact ih (k + 1) τ (by omega) hS hh
        case false =>
          obtain ⟨υ, f1, f2, f3⟩ := zm212 (d := 54) (b := k) (fun T s σ a b c e => by
            obtain ⟨τ, y1, y2⟩ := zm213 m' (54 - 2 * m') T s σ (by omega) a b c e
            rw [show 54 - 2 * m' + 2 * m' + 8 = 54 + 8 by omega] at y1
            exact ⟨τ, y1, y2⟩) wT hS hh (by omega) h2 h4 hk9
          rw [h3] at f1
          have f1 : zev 63 212 [.inr (.inr (0, 60)), .inl (iI s), .inl (iI ((m' + 1 : Nat) : Int)), .inl (iI p), .inl (iI k)] τ = _ := f1
          have hl := gL_r m' x.1 s p k q1
          rw [cond_false, cond_false, f1]
          simp only [zbs, iI_eq (show zrn (gL m' x.1 s p k) by omega) (show zrn (gV (m' + 1) x.1 s) by omega)]
          by_cases q5 : gL m' x.1 s p k = gV (m' + 1) x.1 s
          · rw [if_pos q5, if_pos q5]
            exact ⟨υ, rfl, f2, f3⟩
          · rw [if_neg q5, if_neg q5]
            obtain ⟨υ2, y1, y2, y3⟩ := ih (k + 1) υ (by omega) f3 (mR_f hh (zFr_f f2 (fun i => by omega)))
            exact ⟨υ2, y1, zFr_tt f2 y2, y3⟩
    obtain ⟨υ2, y1, y2, y3⟩ := key ((x.1 0).toNat) 0 υ (by omega) f3 f4
    exact ⟨υ2, y1, zFr_tt fr (zFr_i y2 fun _ _ _ q => by omega), y3⟩
theorem zm152 {d : Nat} {x : Int32} {u : Nat} {σ : zM} (hu : u < 32) : zev (d + 1) 152 [.inl x, .inl (iI u)] σ = some (zB (bt x u), 0, σ) := by
  have b1 : ∀ i, i < 32 → bt 1 i = decide (i = 0) := by decide +kernel
  have e : (((x >>> (iI u &&& 31)) &&& 1) = 1) = (bt x u = true) := by
    rw [← nI_iI]
    refine propext ⟨fun h => ?_, fun h => ?_⟩
    · have := congrArg (fun y => bt y 0) h
      simp only [b_and, b_sshr u hu x (show 0 < 32 by decide), b1 0 (by decide)] at this
      simpa [hu] using this
    · refine b_ext fun i hi => ?_
      rw [b_and, b_sshr u hu x hi, b1 i hi]
      by_cases q : i = 0
      · subst q; simp [hu, h]
      · simp [q]
  rw [ez_152]
  show (if ((x >>> (iI u &&& 31)) &&& 1) = 1 then _ else _) = _
  simp only [e]
  cases bt x u
  · exact zgd_t rfl
  · exact zgd_t rfl
theorem zshr {z : Int} {n : Nat} (hz : zrn z) (hn : n < 9) : ((Int32.toUInt32 (iI z) >>> (Int32.toUInt32 (iI n) &&& Int32.toUInt32 31)).toInt32 = 0) = (0 ≤ z ∧ z ≤ 2 ^ n - 1) := by
  have e1 : (Int32.toUInt32 (iI z) >>> (Int32.toUInt32 (iI n) &&& Int32.toUInt32 31)).toInt32.toBitVec.toNat = (z % 4294967296).toNat / 2 ^ n := by
    show (Int32.toUInt32 (iI z) >>> (Int32.toUInt32 (iI n) &&& Int32.toUInt32 31)).toBitVec.toNat = _
    rw [UInt32.toBitVec_shiftRight]
    show ((iI z).toBitVec >>> (((Int32.toUInt32 (iI n) &&& Int32.toUInt32 31)).toBitVec % 32).toNat).toNat = _
    rw [← nI_iI, s_u n (by omega), BitVec.toNat_ushiftRight, Nat.shiftRight_eq_div_pow]
    congr 1
  have e2 : ((Int32.toUInt32 (iI z) >>> (Int32.toUInt32 (iI n) &&& Int32.toUInt32 31)).toInt32 = 0) ↔ (z % 4294967296).toNat / 2 ^ n = 0 := by
    rw [← e1]
    constructor
    · intro h; rw [h]; rfl
    · intro h
      apply Int32.toBitVec_inj.mp
      apply BitVec.eq_of_toNat_eq
      exact h
  refine propext (e2.trans ?_)
  rcases (by omega : n = 0 ∨ n = 1 ∨ n = 2 ∨ n = 3 ∨ n = 4 ∨ n = 5 ∨ n = 6 ∨ n = 7 ∨ n = 8) with rfl | rfl | rfl | rfl | rfl | rfl | rfl | rfl | rfl <;> simp only [Nat.reducePow, Int.reducePow] <;> omega
def aCn (z : Int) : Nat → Nat
  | 0 => 0
  | n + 1 => aCn z n + bif bt (iI z) n then 1 else 0
def oN : Nat → Int32 → Int32 → Option Int32
  | 0, _, _ => none
  | n + 1, a, b => if b = 0 then some a else oN n (a + 1) (b &&& (b - 1))
theorem oN_r {C : zC} {σ : zM} : ∀ (n : Nat) (a b r : Int32) (d0 : Option zV), oN n a b = some r → zrun C zT_204 4 [d0, some (.inl a), some (.inl b)] [] σ = some (r, 0, σ)
  | 0, _, _, _, _, h => by cases h
  | n + 1, a, b, r, d0, h => by
    rw [ez_204_4]
    have h : (if b = 0 then some a else oN n (a + 1) (b &&& (b - 1))) = some r := h
    by_cases q : b = 0
    · rw [if_pos q] at h ⊢
      cases h; rfl
    · rw [if_neg q] at h ⊢
      exact oN_r n (a + 1) _ r none h
theorem oN_c : ∀ z : Nat, z < 256 → oN 9 0 (iI z) = some (iI (aCn z 8 : Nat)) := by decide +kernel
theorem aCn_n : ∀ n : Nat, n < 9 → ∀ z : Nat, z < 2 ^ n → aCn z 8 = aCn z n := by decide +kernel
theorem aCn_l {z : Int} : ∀ n : Nat, aCn z n ≤ n
  | 0 => Nat.le_refl _
  | n + 1 => by
    have := aCn_l (z := z) n
    show aCn z n + (bif bt (iI z) n then 1 else 0) ≤ n + 1
    cases bt (iI z) n
    · rw [cond_false]; omega
    · rw [cond_true]; omega
theorem zm204 {d z : Nat} {σ : zM} (hz : z < 256) : zev (d + 1) 204 [.inl (iI z)] σ = some (iI (aCn z 8 : Nat), 0, σ) := by
  rw [ez_204]
  exact oN_r 9 0 (iI z) _ _ (oN_c z hz)
def zb1 (p : Int32) : Int32 := p - ((Int32.toUInt32 p >>> (Int32.toUInt32 1 &&& Int32.toUInt32 31)).toInt32 &&& 1431655765)
def zb2 (p : Int32) : Int32 := (p &&& 858993459) + ((Int32.toUInt32 p >>> (Int32.toUInt32 2 &&& Int32.toUInt32 31)).toInt32 &&& 858993459)
def zb3 (p : Int32) : Int32 := (p + (Int32.toUInt32 p >>> (Int32.toUInt32 4 &&& Int32.toUInt32 31)).toInt32) &&& 252645135
def zb4 (p : Int32) : Int32 := p + (Int32.toUInt32 p >>> (Int32.toUInt32 8 &&& Int32.toUInt32 31)).toInt32
def zb5 (p : Int32) : Int32 := (p + (Int32.toUInt32 p >>> (Int32.toUInt32 16 &&& Int32.toUInt32 31)).toInt32) &&& 63
theorem zbc_c : ∀ z : Nat, z < 256 → zb5 (zb4 (zb3 (zb2 (zb1 (iI z))))) = iI (aCn z 8 : Nat) := by decide +kernel
theorem zc271 {d z : Nat} {σ : zM} (hz : z < 256) : zev (d + 1) 271 [.inl (iI z)] σ = some (iI (aCn z 8 : Nat), 0, σ) := by
  rw [ez_271, ← zbc_c z hz]
  rfl
def aPy (z : Int) (n : Nat) : Bool := decide ((0 ≤ z ∧ z ≤ 2 ^ n - 1) ∧ aCn z n ≤ 4)
theorem zint8 {z : Int} {n : Nat} (h : 0 ≤ z ∧ z ≤ 2 ^ n - 1) (hn : n < 9) : ∃ m : Nat, z = m ∧ m < 2 ^ n ∧ m < 256 := by
  obtain ⟨m, rfl⟩ := zint h.1
  refine ⟨m, rfl, ?_⟩
  rcases (by omega : n = 0 ∨ n = 1 ∨ n = 2 ∨ n = 3 ∨ n = 4 ∨ n = 5 ∨ n = 6 ∨ n = 7 ∨ n = 8) with rfl | rfl | rfl | rfl | rfl | rfl | rfl | rfl | rfl <;> simp only [Nat.reducePow, Int.reducePow] at h ⊢ <;> omega
theorem zc114 {d : Nat} {S : zS} {z : Int} {σ : zM} (hA : cA 0 S σ) (w : wP S) (hz : zrn z) : zev (d + 2) 114 [.inr (.inr (0, 30)), .inl (iI z)] σ = some (zB (aPy z (S 2).toNat), 0, σ) := by
  have p0 := w.1
  have p1 := w.2.1
  have e := zshr (z := z) (n := (S 2).toNat) hz (by omega)
  rw [Int.toNat_of_nonneg p0] at e
  rw [ez_114]
  simp only [hA.2.2.2.1.1, e]
  unfold aPy
  by_cases q : 0 ≤ z ∧ z ≤ 2 ^ (S 2).toNat - 1
  · obtain ⟨m, rfl, h1, h2⟩ := zint8 q (by omega)
    have e4 : (4 < iI ((aCn m 8 : Nat) : Int)) = ((4 : Int) < (aCn m 8 : Nat)) := by
      have := aCn_l (z := m) 8
      exact iI_lt (a := 4) (by decide) (by omega)
    rw [if_pos q]
    simp only [zc271 (d := d) h2, zbs, e4]
    rw [aCn_n _ (by omega) m h1]
    by_cases q2 : (4 : Int) < (aCn m (S 2).toNat : Nat)
    · rw [if_pos q2, zgd_t (by decide), decide_eq_false (by omega)]; rfl
    · rw [if_neg q2, zgd_t (by decide), decide_eq_true ⟨q, by omega⟩]; rfl
  · rw [if_neg q, zgd_t (by decide), decide_eq_false (fun z => q z.1)]; rfl
theorem zm205 {d : Nat} {S : zS} {z : Int} {σ : zM} (hS : mS 61 S σ) (w : wP S) (hz : zrn z) : zev (d + 2) 205 [.inr (.inr (0, 60)), .inl (iI z)] σ = some (zB (aPy z (S 2).toNat), 0, σ) := by
  have p0 := w.1
  have p1 := w.2.1
  have e1 : ∀ n : Nat, n < 9 → (Int32.toInt64 ((1 <<< (iI n &&& 31)) - 1)).toInt = 2 ^ n - 1 := by decide +kernel
  have e2 := e1 (S 2).toNat (by omega)
  rw [Int.toNat_of_nonneg p0] at e2
  have m1 : zev (d + 1) 149 [.inr (.inl (Int32.toInt64 (iI z))), .inr (.inl 0), .inr (.inl (Int32.toInt64 ((1 <<< (iI (S 2) &&& 31)) - 1)))] σ = some (zB (decide (0 ≤ z ∧ z ≤ 2 ^ (S 2).toNat - 1)), 0, σ) := by
    rw [zm149 hz, e2]; rfl
  rw [ez_205, hS 2 (by decide)]
  simp only [m1, zbs, zBi]
  unfold aPy
  by_cases q : 0 ≤ z ∧ z ≤ 2 ^ (S 2).toNat - 1
  · obtain ⟨m, rfl, h1, h2⟩ := zint8 q (by omega)
    have e4 : (iI ((aCn m 8 : Nat) : Int) < 5) = (((aCn m 8 : Nat) : Int) < 5) := by
      have := aCn_l (z := m) 8
      exact iI_lt (b := 5) (by omega) (by decide)
    rw [decide_eq_true q, cond_true]
    simp only [zm204 (d := d) h2, zbs, e4]
    rw [aCn_n _ (by omega) m h1]
    by_cases q2 : ((aCn m (S 2).toNat : Nat) : Int) < 5
    · rw [if_pos q2, zgd_t (by decide), decide_eq_true ⟨q, by omega⟩]; rfl
    · rw [if_neg q2, zgd_t (by decide), decide_eq_false (by omega)]; rfl
  · rw [decide_eq_false q, cond_false, zgd_t (by decide), decide_eq_false (fun z => q z.1)]; rfl
def aSx (F : Nat → Option (List Nat)) (brk : Nat → Bool) : Nat → Nat → Option (List Nat)
  | 0, _ => none
  | m + 1, b => bif brk b then aSx F brk m (b + 1) else match F b with
    | some l => some (b :: l)
    | none => aSx F brk m (b + 1)
theorem aSx_c {F G : Nat → Option (List Nat)} {p q : Nat → Bool} : ∀ (m b : Nat), (∀ i, b ≤ i → i < b + m → p i = q i ∧ F i = G i) → aSx F p m b = aSx G q m b
  | 0, _, _ => rfl
  | m + 1, b, h => by
    have ih := aSx_c m (b + 1) (fun i h1 h2 => h i (by omega) (by omega))
    have h0 := h b (by omega) (by omega)
    unfold aSx
    rw [h0.1, h0.2, ih]
theorem aSx_n {F : Nat → Option (List Nat)} {p : Nat → Bool} : ∀ (m b : Nat), (∀ i, b ≤ i → i < b + m → F i = none) → aSx F p m b = none
  | 0, _, _ => rfl
  | m + 1, b, h => by
    have ih := aSx_n (p := p) m (b + 1) (fun i h1 h2 => h i (by omega) (by omega))
    unfold aSx
    rw [h b (by omega) (by omega), ih]
    cases p b <;> rfl
def aSf (P : Nat → Nat) : Nat → Nat → zS → Option (List Nat)
  | 0, _, T => bif aCk T then none else some []
  | n + 1, k, T => aSx (fun b => aSf P n (k + 1) (aSit T (P k) b)) (aBrk T) ((T 0).toNat) 0
def aGr (P : Nat → Nat) (n k : Nat) (T U : zS) : Prop := ∀ i, (∀ j, k ≤ j → j < k + n → i ≠ 54 + 3 * P j) → U i = T i
theorem aGr_sit {P : Nat → Nat} {n k : Nat} {T U : zS} (h : aGr P (n + 1) k T U) (z : Int) : aGr P n (k + 1) (aSit T (P k) z) (aSit U (P k) z) := fun i hi => by
  by_cases q : i = 54 + 3 * P k
  · subst q
    unfold aSit
    rw [zup_s, zup_s]
  · rw [aSit_n q, aSit_n q]
    refine h i (fun j h1 h2 => ?_)
    by_cases q2 : j = k
    · subst q2; exact q
    · exact hi j (by omega) (by omega)
theorem aGr_up {P : Nat → Nat} {n k : Nat} {T U V : zS} {z : Int} (h : aGr P (n + 1) k T U) (g : aGr P n (k + 1) (aSit U (P k) z) V) : aGr P (n + 1) k T V := fun i hi => by
  rw [g i (fun j h1 h2 => hi j (by omega) (by omega)), aSit_n (hi k (by omega) (by omega))]
  exact h i hi
theorem aSf_c {P : Nat → Nat} : ∀ (n k : Nat) {T U : zS}, T 0 ≤ 9 → aGr P n k T U → aSf P n k U = aSf P n k T
  | 0, k, T, U, _, h => by
    have : U = T := funext fun i => h i (fun j h1 h2 => by omega)
    rw [this]
  | n + 1, k, T, U, h9, h => by
    have h0 : U 0 = T 0 := h 0 (fun j _ _ => by omega)
    unfold aSf
    rw [h0]
    refine aSx_c _ _ fun i h1 h2 => ⟨?_, ?_⟩
    · unfold aBrk
      rw [h (11 + 5 * i) (fun j _ _ => by omega)]
    · exact aSf_c n (k + 1) (by rw [aSit_n (by omega)]; exact h9) (aGr_sit h i)
theorem aSx_l {F : Nat → Option (List Nat)} {p : Nat → Bool} {n N : Nat} (hF : ∀ b l, F b = some l → l.length = n ∧ ∀ y, y ∈ l → y < N) : ∀ (m b : Nat) (l : List Nat), b + m ≤ N → aSx F p m b = some l → l.length = n + 1 ∧ ∀ y, y ∈ l → y < N
  | 0, _, _, _, h => by cases h
  | m + 1, b, l, hb, h => by
    unfold aSx at h
    cases q : p b
    · rw [q, cond_false] at h
      cases q2 : F b with
      | none =>
        rw [q2] at h
        exact aSx_l hF m (b + 1) l (by omega) h
      | some l' =>
        rw [q2] at h
        have h : some (b :: l') = some l := h
        cases h
        have := hF b l' q2
        refine ⟨by rw [List.length_cons, this.1], fun y hy => ?_⟩
        rcases List.mem_cons.mp hy with rfl | hy
        · omega
        · exact this.2 y hy
    · rw [q, cond_true] at h
      exact aSx_l hF m (b + 1) l (by omega) h
theorem aSf_l {P : Nat → Nat} : ∀ (n k : Nat) {T : zS} (l : List Nat), aSf P n k T = some l → l.length = n ∧ ∀ y, y ∈ l → y < (T 0).toNat
  | 0, k, T, l, h => by
    have h : (bif aCk T then none else some []) = some l := h
    cases q : aCk T
    · rw [q] at h; cases h; exact ⟨rfl, fun y hy => by cases hy⟩
    · rw [q] at h; cases h
  | n + 1, k, T, l, h => by
    refine aSx_l (n := n) (N := (T 0).toNat) (fun b l h => ?_) ((T 0).toNat) 0 l (by omega) h
    have := aSf_l n (k + 1) l h
    rw [aSit_n (by omega)] at this
    exact this
theorem aCk_i {T : zS} (h9 : T 0 ≤ 9) : aCk T = true ↔ ∃ b, b < (T 0).toNat ∧ aSp T b < 0 ∧ aBrk T b = false := by
  unfold aCk
  rw [Bool.not_eq_true', decide_eq_false_iff_not, zcr_0 (by omega)]
  constructor
  · intro h
    apply Classical.byContradiction
    intro h2
    apply h
    intro b hb
    unfold aCr
    by_cases q1 : aSp T b < 0
    · cases q2 : aBrk T b
      · exact absurd ⟨b, hb, q1, q2⟩ h2
      · rw [Bool.not_true, Bool.and_false]
    · rw [decide_eq_false q1, Bool.false_and]
  · rintro ⟨b, h1, h2, h3⟩ h
    have := h b h1
    unfold aCr at this
    rw [decide_eq_true h2, h3] at this
    cases this
theorem aCk_up {T : zS} {p b : Nat} (w : wA T) (hp : p < (T 2).toNat) (h : aSeat T p < 0) (hb : b < (T 0).toNat) (hc : aCk T = true) : aCk (aSit T p b) = true := by
  have b1 := w.1.2.1
  have e0 : aSit T p b 0 = T 0 := aSit_n (by omega)
  obtain ⟨u, h1, h2, h3⟩ := (aCk_i b1).mp hc
  refine (aCk_i (by rw [e0]; exact b1)).mpr ⟨u, by rw [e0]; exact h1, ?_, ?_⟩
  · rw [aSp_sit0 w hp h hb u h1]
    have := (w.2.2.1.2.2 p hp).1
    unfold aLd
    cases aAbI T b u
    · rw [cond_false]; omega
    · rw [cond_true]; omega
  · unfold aBrk at h3 ⊢
    rw [aSit_n (by omega)]
    exact h3
theorem aSf_ck {P : Nat → Nat} {L : Nat} (inj : ∀ i j, i < j → j < L → P i < P j) : ∀ (n k : Nat) {T : zS}, k + n = L → wA T → (∀ j, k ≤ j → j < L → P j < (T 2).toNat ∧ aSeat T (P j) < 0) → aCk T = true → aSf P n k T = none
  | 0, _, T, _, _, _, h => by
    show (bif aCk T then none else some []) = none
    rw [h]; rfl
  | n + 1, k, T, hk, w, hl, h => by
    have h1 := hl k (by omega) (by omega)
    have b0 := w.1.1
    refine aSx_n _ _ fun b _ hb => ?_
    refine aSf_ck inj n (k + 1) (by omega) (aSit_w w h1.1 (by omega)) (fun j q1 q2 => ?_) (aCk_up w h1.1 h1.2 (by omega) h)
    have h2 := hl j (by omega) q2
    have := inj k j (by omega) q2
    rw [aSit_n (by omega), aSit_o (by omega)]
    exact h2
abbrev WSm (q : Nat) : Nat → Nat → Nat → Prop := fun g k i => g = 0 ∧ (k = 61 ∨ k = 66 ∨ (k = 70 ∧ q ≤ i))
theorem zm206 {P : Nat → Nat} {L : Nat} (hL : L ≤ 4) {S2 : Int} (hP : ∀ j, j < L → P j < S2.toNat) : ∀ (n k d : Nat) (T : zS) (σ : zM), k + n = L → wA T → T 2 = S2 → mS 61 T σ → mR 65 T (aHold T) σ → σ.1 0 60 11 = iI L → (∀ i, i < L → σ.1 0 68 i = iI (P i)) → ∃ τ T', zev (d + n + 9) 206 [.inr (.inr (0, 60)), .inl (iI k)] σ = some (zB (aSf P n k T).isSome, 0, τ) ∧ zFr (WSm k) σ τ ∧ mS 61 T' τ ∧ wA T' ∧ aGr P n k T T' ∧ ∀ l, aSf P n k T = some l → ∀ i, i < n → τ.1 0 70 (k + i) = iI (l.getD i 0 : Nat)
  | 0, k, d, T, σ, hk, w, h2, hS, hh, h11, h68 => by
    obtain ⟨τ, g1, g2⟩ := zm171 (d := d) hS w hh
    rw [ez_206, h11]
    simp only [iI_eq (show zrn (k : Int) by omega) (show zrn (L : Int) by omega)]
    rw [if_pos (by omega), g1]
    refine ⟨τ, T, ?_, zFr_i g2 fun _ _ _ q => by omega, mS_f hS (zFr_f g2 (fun i => by omega)), w, fun i _ => rfl, fun l _ i hi => by omega⟩
    simp only [zbs]
    unfold aSf
    cases aCk T
    · exact zgd_t rfl
    · exact zgd_t rfl
  | n + 1, k, d, T, σ, hk, w, h2, hS, hh, h11, h68 => by
    have b0 := w.1.1
    have b1 := w.1.2.1
    have p1 := w.2.2.1.2.1
    have hPk := hP k (by omega)
    rw [← h2] at hPk
    have hg4 : ∀ {y : zR}, zgd (zin (iI (k : Int)) 8) y = y := fun {y} => zgd_t (iI_ink (z := k) (k := k) rfl (by omega) (by decide))
    have hN : Int32.toNatClampNeg (iI (k : Int)) = k := iI_Nn (by omega)
    have key : ∀ (m b : Nat) (U : zS) (σ : zM), b + m = (T 0).toNat → wA U → aGr P (n + 1) k T U → mS 61 U σ → mR 65 T (aHold T) σ → σ.1 0 60 11 = iI L → (∀ i, i < L → σ.1 0 68 i = iI (P i)) → ∃ τ T', zrun (zev (d + n + 9)) zT_206 15 [some (.inr (.inr (0, 60))), some (.inl (iI k)), some (.inl (iI b))] [] σ = some (zB (aSx (fun b => aSf P n (k + 1) (aSit T (P k) b)) (aBrk T) m b).isSome, 0, τ) ∧ zFr (WSm k) σ τ ∧ mS 61 T' τ ∧ wA T' ∧ aGr P (n + 1) k T T' ∧ ∀ l, aSx (fun b => aSf P n (k + 1) (aSit T (P k) b)) (aBrk T) m b = some l → ∀ i, i < n + 1 → τ.1 0 70 (k + i) = iI (l.getD i 0 : Nat) := by
      intro m
      induction m with
      | zero =>
        intro b U σ hb wU gU hS hh h11 h68
        have u0 : U 0 = T 0 := gU 0 (fun j _ _ => by omega)
        rw [ez_206_15, hS 0 (by decide), u0, if_neg (by rw [iI_lt (by omega) (by omega)]; omega), zgd_t (by decide)]
        exact ⟨σ, U, rfl, zFr_r σ, hS, wU, gU, fun l h => by cases h⟩
      | succ m ih =>
        intro b U σ hb wU gU hS hh h11 h68
        have u0 : U 0 = T 0 := gU 0 (fun j _ _ => by omega)
        have u2 : U 2 = T 2 := gU 2 (fun j _ _ => by omega)
        have hb9 : b < (T 0).toNat := by omega
        have ub : aBrk U b = aBrk T b := by
          unfold aBrk
          rw [gU (11 + 5 * b) (fun j _ _ => by omega)]
        have wb := wU.1.2.2 b (by rw [u0]; exact hb9)
        have e57 : zev (d + n + 9) 157 [.inr (.inr (0, 60)), .inl (iI b)] σ = some (zB (aBrk T b), 0, σ) := by
          rw [← ub]; exact zm157 (d := d + n + 6) hS (by omega) (by omega)
        have eg : aSx (fun b => aSf P n (k + 1) (aSit T (P k) b)) (aBrk T) (m + 1) b = bif aBrk T b then aSx (fun b => aSf P n (k + 1) (aSit T (P k) b)) (aBrk T) m (b + 1) else match aSf P n (k + 1) (aSit T (P k) b) with
          | some l => some (b :: l)
          | none => aSx (fun b => aSf P n (k + 1) (aSit T (P k) b)) (aBrk T) m (b + 1) := rfl
        rw [eg, ez_206_15, hS 0 (by decide), u0, if_pos (by rw [iI_lt (by omega) (by omega)]; omega)]
        simp only [e57, zbs, zBi, hki1]
        cases q : aBrk T b
        case true =>
          rw [cond_true, cond_true]
          exact ih (b + 1) U σ (by omega) wU gU hS hh h11 h68
        case false =>
          rw [cond_false, cond_false]
          have e180 : zev (d + n + 9) 180 [.inr (.inr (0, 60)), .inl (iI (P k)), .inl (iI b)] σ = some (0, 0, zwI σ 0 61 (54 + 3 * P k) (iI ((b : Int) + 1))) := zm180 (d := d + n + 7) (by omega)
          have wV : wA (aSit U (P k) b) := aSit_w wU (by rw [u2]; exact hPk) (by omega)
          have hS1 : mS 61 (aSit U (P k) b) (zwI (zwI σ 0 61 (54 + 3 * P k) (iI ((b : Int) + 1))) 0 70 k (iI b)) := mS_f (mS_up hS) (zfn (by omega))
          have hV : ∀ u, u < 9 → aHold (aSit U (P k) b) u = aHold T u := fun u hu => by
            rw [aSit_hold (by omega) hu]
            exact aHold_c hu fun i hi => gU i (fun j h1 h2 => by
              have := hP j (by omega)
              have : dH i := hi
              omega)
          have hh1 : mR 65 (aSit U (P k) b) (aHold (aSit U (P k) b)) (zwI (zwI σ 0 61 (54 + 3 * P k) (iI ((b : Int) + 1))) 0 70 k (iI b)) := fun u hu => by
            rw [aSit_n (by omega), u0] at hu
            rw [zfe (by omega), zfe (by omega), hV u (by omega)]; exact hh u hu
          obtain ⟨τ, V, g1, g2, g3, g4, g5, g6⟩ := zm206 hL hP n (k + 1) d (aSit U (P k) b) (zwI (zwI σ 0 61 (54 + 3 * P k) (iI ((b : Int) + 1))) 0 70 k (iI b)) (by omega) wV (by rw [aSit_n (by omega), u2]; exact h2) hS1 hh1 (by rw [zfe (by omega), zfe (by omega)]; exact h11) (fun i hi => by rw [zfe (by omega), zfe (by omega)]; exact h68 i hi)
          have ef : aSf P n (k + 1) (aSit U (P k) b) = aSf P n (k + 1) (aSit T (P k) b) := aSf_c n (k + 1) (by rw [aSit_n (by omega)]; exact b1) (aGr_sit gU b)
          rw [ef] at g1 g6
          have fr : zFr (WSm k) σ τ := zFr_tt (zFr_tt (zFr_w (by omega)) (zFr_w (by omega))) (zFr_i g2 fun _ _ _ q => by omega)
          have gV : aGr P (n + 1) k T V := aGr_up gU g5
          simp only [hg4, hN, h68 k (by omega), e180, zbs, g1, zBi]
          cases q2 : aSf P n (k + 1) (aSit T (P k) b) with
          | none =>
            show ∃ τ_1 T', (bif false then _ else _) = _ ∧ _
            rw [cond_false]
            obtain ⟨υ, V2, y1, y2, y3, y4, y5, y6⟩ := ih (b + 1) V τ (by omega) g4 gV g3 (mR_f hh (zFr_f fr (fun i => by omega))) ((fr.1 _ _ _ (by omega)).trans h11) (fun i hi => (fr.1 _ _ _ (by omega)).trans (h68 i hi))
            exact ⟨υ, V2, y1, zFr_tt fr y2, y3, y4, y5, y6⟩
          | some l =>
            show ∃ τ_1 T', (bif true then _ else _) = _ ∧ _
            rw [cond_true, zgd_t (by decide)]
            refine ⟨τ, V, rfl, fr, g3, g4, gV, fun l' h => ?_⟩
            have h : some (b :: l) = some l' := h
            cases h
            intro i hi
            cases i with
            | zero =>
              rw [g2.1 _ _ _ (by omega), Nat.add_zero, zfs]; rfl
            | succ i =>
              have := g6 l q2 i (by omega)
              rw [show k + 1 + i = k + (i + 1) by omega] at this
              exact this
    have hk1 : ¬ ((k : Int) = (L : Int)) := by omega
    rw [show d + (n + 1) + 9 = d + n + 9 + 1 by omega, ez_206, h11]
    simp only [iI_eq (show zrn (k : Int) by omega) (show zrn (L : Int) by omega)]
    rw [if_neg hk1]
    exact key ((T 0).toNat) 0 T σ (by omega) w (fun _ _ => rfl) hS hh h11 h68
abbrev WSc (q : Nat) : Nat → Nat → Nat → Prop := fun g k i => (g = 3 ∧ k = 22) ∨ (g = 0 ∧ k = 37 ∧ q ≤ i)
theorem zc29v {d : Nat} {T V : zS} {σ : zM} (w : wA T) (wV : wA V) (hT : ∀ i, i < 52 → V i = T i) (hA : cA 3 T σ) (hs : cS 3 T (aSp V) σ) : zev (d + 3) 29 [.inr (.inr (3, 0))] σ = some (zcr (aCr V (aSp V)) ((V 0).toNat), 0, σ) := by
  have b1 := w.1.2.1
  have e0 : V 0 = T 0 := hT 0 (by decide)
  have hr := aSp_r wV
  have := zc29 (d := d) hA.1 hA.2.1 w.1 hs (fun b hb => hr b (by rw [e0]; exact hb))
  rw [this, e0]
  congr 2
  refine zcr_c fun i hi => ?_
  unfold aCr aBrk
  rw [hT (11 + 5 * i) (by omega)]
theorem zc70 {P : Nat → Nat} {L : Nat} (hL : L ≤ 4) (inj : ∀ i j, i < j → j < L → P i < P j) {T : zS} (w : wA T) (hP : ∀ j, j < L → P j < (T 2).toNat) : ∀ (n k d : Nat) (V : zS) (σ : zM), k + n = L → wA V → (∀ i, (∀ p, i ≠ 54 + 3 * p) → V i = T i) → (∀ j, k ≤ j → j < L → aSeat V (P j) < 0) → aCk V = false → cA 3 T σ → cS 3 T (aSp V) σ → σ.1 0 35 0 = iI L → (∀ i, i < L → σ.1 0 36 i = iI (P i)) → ∃ τ, zev (d + n + 5) 70 [.inr (.inr (0, 35)), .inl (iI k)] σ = some (zB (aSf P n k V).isSome, 0, τ) ∧ zFr (WSc k) σ τ ∧ (aSf P n k V = none → cS 3 T (aSp V) τ) ∧ ∀ l, aSf P n k V = some l → ∀ i, i < n → τ.1 0 37 (k + i) = iI (l.getD i 0 : Nat)
  | 0, k, d, V, σ, hk, wV, hT, hl, hc, hA, hs, h35, h36 => by
    have e : aSf P 0 k V = some [] := by
      show (bif aCk V then none else some []) = _
      rw [hc]; rfl
    rw [ez_70, h35]
    simp only [iI_lt (show zrn (k : Int) by omega) (show zrn (L : Int) by omega)]
    rw [if_neg (by omega), e, zgd_t (by decide)]
    exact ⟨σ, rfl, zFr_r σ, (fun h => by cases h), fun l _ i hi => by omega⟩
  | n + 1, k, d, V, σ, hk, wV, hT, hl, hc, hA, hs, h35, h36 => by
    have b0 := w.1.1
    have b1 := w.1.2.1
    have p1 := w.2.2.1.2.1
    have hPk := hP k (by omega)
    have v0 : V 0 = T 0 := hT 0 (fun p => by omega)
    have v2 : V 2 = T 2 := hT 2 (fun p => by omega)
    have vw : V (52 + 3 * P k) = T (52 + 3 * P k) := hT _ (fun p => by omega)
    have hPV : P k < (V 2).toNat := by rw [v2]; exact hPk
    have hg4 : ∀ {y : zR}, zgd (zin (iI (k : Int)) 4) y = y := fun {y} => zgd_t (iI_ink (z := k) (k := k) rfl (by omega) (by decide))
    have hN : Int32.toNatClampNeg (iI (k : Int)) = k := iI_Nn (by omega)
    have hgP : ∀ {y : zR}, zgd (zin (iI (P k : Int)) 8) y = y := fun {y} => zgd_t (iI_ink (z := P k) (k := P k) rfl (by omega) (by decide))
    have hNP : Int32.toNatClampNeg (iI (P k : Int)) = P k := iI_Nn (by omega)
    have hwt := w.2.2.1.2.2 (P k) hPk
    have key : ∀ (m b : Nat) (σ : zM), b + m = (V 0).toNat → cA 3 T σ → cS 3 T (aSp V) σ → σ.1 0 35 0 = iI L → (∀ i, i < L → σ.1 0 36 i = iI (P i)) → ∃ τ, zrun (zev (d + n + 5)) zT_70 30 [some (.inr (.inr (0, 35))), some (.inl (iI k)), some (.inl (iI (T (52 + 3 * P k)))), some (.inl (iI b))] [] σ = some (zB (aSx (fun b => aSf P n (k + 1) (aSit V (P k) b)) (aBrk V) m b).isSome, 0, τ) ∧ zFr (WSc k) σ τ ∧ (aSx (fun b => aSf P n (k + 1) (aSit V (P k) b)) (aBrk V) m b = none → cS 3 T (aSp V) τ) ∧ ∀ l, aSx (fun b => aSf P n (k + 1) (aSit V (P k) b)) (aBrk V) m b = some l → ∀ i, i < n + 1 → τ.1 0 37 (k + i) = iI (l.getD i 0 : Nat) := by
      intro m
      induction m with
      | zero =>
        intro b σ hb hA hs h35 h36
        rw [ez_70_30, hA.1.1, if_neg (by rw [iI_lt (by omega) (by omega)]; omega), zgd_t (by decide)]
        exact ⟨σ, rfl, zFr_r σ, fun _ => hs, fun l h => by cases h⟩
      | succ m ih =>
        intro b σ hb hA hs h35 h36
        have hb9 : b < (V 0).toNat := by omega
        have hbT : b < (T 0).toNat := by omega
        have ub : aBrk V b = aBrk T b := by
          unfold aBrk
          rw [hT (11 + 5 * b) (fun p => by omega)]
        have e14 : zev (d + n + 5) 14 [.inr (.inr (3, 1)), .inl (iI b)] σ = some (zB (!aBrk V b), 0, σ) := by
          have := zc14 (d := d + n + 3) (z := (b : Int)) hA.1 hA.2.1 w.1 (by omega)
          rw [decide_eq_true (by omega), Bool.true_and, Int.toNat_natCast, ← ub] at this
          exact this
        have eg : aSx (fun b => aSf P n (k + 1) (aSit V (P k) b)) (aBrk V) (m + 1) b = bif aBrk V b then aSx (fun b => aSf P n (k + 1) (aSit V (P k) b)) (aBrk V) m (b + 1) else match aSf P n (k + 1) (aSit V (P k) b) with
          | some l => some (b :: l)
          | none => aSx (fun b => aSf P n (k + 1) (aSit V (P k) b)) (aBrk V) m (b + 1) := rfl
        rw [eg, ez_70_30, hA.1.1, if_pos (by rw [iI_lt (by omega) (by omega)]; omega)]
        simp only [e14, zbs, zBi, hki1]
        cases q : aBrk V b
        case true =>
          rw [Bool.not_true, cond_false, cond_true]
          exact ih (b + 1) σ (by omega) hA hs h35 h36
        case false =>
          rw [Bool.not_false, cond_true, cond_false]
          have hs1 : cS 3 T (aSp V) (zwI σ 0 37 k (iI b)) := fun u hu => by rw [zfe (by omega)]; exact hs u hu
          have hA1 : cA 3 T (zwI σ 0 37 k (iI b)) := cA_c hA (fun k a _ _ _ => zfn (by omega)) (zfe (by omega))
          obtain ⟨τ, g1, g2, g3⟩ := zc28n (d := d + n + 2) (x := T (52 + 3 * P k)) hA1.1 w.1 hs1 hbT
          have g1 : zev (d + n + 5) 28 [.inr (.inr (3, 0)), .inl (iI b), .inl (iI (T (52 + 3 * P k)))] (zwI σ 0 37 k (iI b)) = _ := g1
          have hA2 : cA 3 T τ := cA_c hA1 (fun k a _ _ _ => zFr_f g2 (fun i => by omega)) (g2.1 _ _ _ (by omega))
          have wW : wA (aSit V (P k) b) := aSit_w wV hPV (by omega)
          have eab : ∀ u, aAbI V b u = aAbI T b u := fun u => aAbI_c (fun c hc => hT _ (fun p => by omega)) w.1 (by omega)
          have hs2 : cS 3 T (aSp (aSit V (P k) b)) τ := cS_c g3 rfl fun u hu => by
            rw [aSp_sit0 wV hPV (hl k (by omega) (by omega)) hb9 u (by rw [v0]; exact hu)]
            unfold aLd
            rw [eab, vw]
          have hTW : ∀ i, (∀ p, i ≠ 54 + 3 * p) → aSit V (P k) b i = T i := fun i hi => by rw [aSit_n (hi (P k))]; exact hT i hi
          have e29 : zev (d + n + 5) 29 [.inr (.inr (3, 0))] τ = _ := zc29v (d := d + n + 2) w wW (fun i hi => hTW i (fun p => by omega)) hA2 hs2
          have fr : zFr (WSc k) σ τ := zFr_tt (zFr_w (by omega)) (zFr_i g2 fun _ _ _ q => by omega)
          have fin : ∀ υ : zM, cS 3 T (aSp (aSit V (P k) b)) υ → cA 3 T υ → ∃ τ, zev (d + n + 5) 28 [.inr (.inr (3, 0)), .inl (iI b), .inl (iI (-(T (52 + 3 * P k))))] υ = some (0, 0, τ) ∧ zFr (Wk 3 22) υ τ ∧ cS 3 T (aSp V) τ := by
            intro υ hs hA
            obtain ⟨τ, y1, y2, y3⟩ := zc28n (d := d + n + 2) (x := -(T (52 + 3 * P k))) hA.1 w.1 hs hbT
            refine ⟨τ, y1, y2, cS_c y3 rfl fun u hu => ?_⟩
            unfold aLd
            rw [aSp_sit0 wV hPV (hl k (by omega) (by omega)) hb9 u (by rw [v0]; exact hu)]
            unfold aLd
            rw [eab, vw]
            cases aAbI T b u
            · rw [cond_false, cond_false]; omega
            · rw [cond_true, cond_true]; omega
          simp only [hg4, hN, g1, zbs, e29, zCk, iI_neg']
          cases q1 : aCk (aSit V (P k) b)
          case true =>
            have en : aSf P n (k + 1) (aSit V (P k) b) = none := aSf_ck inj n (k + 1) (by omega) wW (fun j h1 h2 => by
              have := inj k j (by omega) h2
              rw [aSit_n (by omega), aSit_o (by omega), v2]
              exact ⟨hP j h2, hl j (by omega) h2⟩) q1
            obtain ⟨τ2, y1, y2, y3⟩ := fin τ hs2 hA2
            rw [cond_true, en, y1]
            simp only [zbs]
            have fr2 : zFr (WSc k) σ τ2 := zFr_tt fr (zFr_i y2 fun _ _ _ q => by omega)
            obtain ⟨υ, x1, x2, x3, x4⟩ := ih (b + 1) τ2 (by omega) (cA_c hA2 (fun k a _ _ _ => zFr_f y2 (fun i => by omega)) (y2.1 _ _ _ (by omega))) y3 ((fr2.1 _ _ _ (by omega)).trans h35) (fun i hi => (fr2.1 _ _ _ (by omega)).trans (h36 i hi))
            exact ⟨υ, x1, zFr_tt fr2 x2, x3, x4⟩
          case false =>
            obtain ⟨τ2, c1, c2, c3, c4⟩ := zc70 hL inj w hP n (k + 1) d (aSit V (P k) b) τ (by omega) wW hTW (fun j h1 h2 => by
              have := inj k j (by omega) h2
              rw [aSit_o (by omega)]
              exact hl j (by omega) h2) q1 hA2 hs2 ((fr.1 _ _ _ (by omega)).trans h35) (fun i hi => (fr.1 _ _ _ (by omega)).trans (h36 i hi))
            have fr2 : zFr (WSc k) σ τ2 := zFr_tt fr (zFr_i c2 fun _ _ _ q => by omega)
            have hA3 : cA 3 T τ2 := cA_c hA2 (fun k a _ _ _ => zFr_f c2 (fun i => by omega)) (c2.1 _ _ _ (by omega))
            rw [cond_false, c1]
            simp only [zbs, zBi]
            cases q2 : aSf P n (k + 1) (aSit V (P k) b) with
            | none =>
              obtain ⟨τ3, y1, y2, y3⟩ := fin τ2 (c3 q2) hA3
              have fr3 : zFr (WSc k) σ τ3 := zFr_tt fr2 (zFr_i y2 fun _ _ _ q => by omega)
              show ∃ τ_1, (bif false then _ else _) = _ ∧ _
              rw [cond_false, y1]
              simp only [zbs]
              obtain ⟨υ, x1, x2, x3, x4⟩ := ih (b + 1) τ3 (by omega) (cA_c hA3 (fun k a _ _ _ => zFr_f y2 (fun i => by omega)) (y2.1 _ _ _ (by omega))) y3 ((fr3.1 _ _ _ (by omega)).trans h35) (fun i hi => (fr3.1 _ _ _ (by omega)).trans (h36 i hi))
              exact ⟨υ, x1, zFr_tt fr3 x2, x3, x4⟩
            | some l =>
              show ∃ τ_1, (bif true then _ else _) = _ ∧ _
              rw [cond_true, zgd_t (by decide)]
              refine ⟨τ2, rfl, fr2, (fun h => by cases h), fun l' h => ?_⟩
              have h : some (b :: l) = some l' := h
              cases h
              intro i hi
              cases i with
              | zero =>
                rw [c2.1 _ _ _ (by omega), g2.1 _ _ _ (by omega), Nat.add_zero, zfs]; rfl
              | succ i =>
                have := c4 l q2 i (by omega)
                rw [show k + 1 + i = k + (i + 1) by omega] at this
                exact this
    have hP3 := hA.2.2.2.1.2 (P k) hPk
    rw [show d + (n + 1) + 5 = d + n + 5 + 1 by omega, ez_70, h35]
    simp only [iI_lt (show zrn (k : Int) by omega) (show zrn (L : Int) by omega), hg4, hN, h36 k (by omega), hgP, hNP, hP3.1]
    rw [if_pos (by omega)]
    exact key ((V 0).toNat) 0 σ (by omega) hA hs h35 h36
def aPm (z : Int) : Nat → Nat → Nat
  | 0 => fun _ => 0
  | n + 1 => bif bt (iI z) n then (fun i => if i = aCn z n then n else aPm z n i) else aPm z n
theorem aPm_b {z : Int} : ∀ (n i : Nat), i < aCn z n → aPm z n i < n
  | 0, _, h => by
    have h : _ < 0 := h
    omega
  | n + 1, i, h => by
    have ih := aPm_b (z := z) n i
    have h : i < aCn z n + (bif bt (iI z) n then 1 else 0) := h
    show (bif bt (iI z) n then (fun i => if i = aCn z n then n else aPm z n i) else aPm z n) i < n + 1
    cases q : bt (iI z) n
    · rw [q, cond_false] at h
      rw [cond_false]
      have := ih (by omega)
      omega
    · rw [q, cond_true] at h
      rw [cond_true]
      show (if i = aCn z n then n else aPm z n i) < n + 1
      split
      · omega
      · have := ih (by omega)
        omega
theorem aPm_i {z : Int} : ∀ (n i j : Nat), i < j → j < aCn z n → aPm z n i < aPm z n j
  | 0, _, _, _, h => by
    have h : _ < 0 := h
    omega
  | n + 1, i, j, hi, h => by
    have ih := aPm_i (z := z) n i j hi
    have h : j < aCn z n + (bif bt (iI z) n then 1 else 0) := h
    show (bif bt (iI z) n then (fun i => if i = aCn z n then n else aPm z n i) else aPm z n) i < (bif bt (iI z) n then (fun i => if i = aCn z n then n else aPm z n i) else aPm z n) j
    cases q : bt (iI z) n
    · rw [q, cond_false] at h
      rw [cond_false]
      exact ih (by omega)
    · rw [q, cond_true] at h
      rw [cond_true]
      show (if i = aCn z n then n else aPm z n i) < (if j = aCn z n then n else aPm z n j)
      rw [if_neg (by omega)]
      by_cases q2 : j = aCn z n
      · rw [if_pos q2]
        exact aPm_b n i (by omega)
      · rw [if_neg q2]
        exact ih (by omega)
def aLf (S : zS) (z : Int) : Nat → zS
  | 0 => S
  | n + 1 => bif bt (iI z) n then aSit (aLf S z n) n (-1) else aLf S z n
