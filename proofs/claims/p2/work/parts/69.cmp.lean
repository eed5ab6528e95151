def nx (t : zXt) (s : Nat) : Nat := aTs t (aTf t s)
theorem nx_l {t : zXt} {s : Nat} (h : s ≤ t.1) : s ≤ nx t s ∧ nx t s ≤ t.1 := by
  have h1 := aTf_l h
  have h2 := aTs_l h1.2
  unfold nx
  omega
theorem aWe_g {t : zXt} {s : Nat} {z c : Int} (hz : aLt z = false) (hz2 : aDg z = false) (h0 : 0 ≤ z) (hc : aSg z = c) (hi : ∀ y, aSg y = c → y = z) (hn : c < 0) (hk : ∀ g, g < 18 → zCd.getD g 0 ≠ c) (h30 : c ≠ -30) (h99 : c ≠ -99) : (aBt t s = z) = (aWe t s = c) := by
  refine propext ?_
  unfold aBt aWe
  by_cases q : s < t.1
  · rw [if_pos q, if_pos q]
    unfold aWd
    constructor
    · intro h
      rw [h, hz, hz2, cond_false, cond_false]; exact hc
    · intro h
      cases q2 : aLt (t.2 s)
      · rw [q2, cond_false] at h
        cases q3 : aDg (t.2 s)
        · rw [q3, cond_false] at h
          exact hi _ h
        · rw [q3, cond_true] at h
          have := (aNv_r (t := t) (s := s) (aTe t s - s) (aTe_d q2 q3)).1
          split at h <;> omega
      · rw [q2, cond_true] at h
        rcases aNwd_i (aIs t s) with ⟨i, i1, i2, i3⟩ | ⟨-, h2⟩
        · exact absurd (i3.symm.trans h) (hk i i1)
        · omega
  · rw [if_neg q, if_neg q]
    constructor
    · intro h; omega
    · intro h; omega
theorem aSg_u (y : Int) : (aSg y = -12 → y = 40) ∧ (aSg y = -13 → y = 41) ∧ (aSg y = -14 → y = 59) ∧ (aSg y = -6 → y = 60) ∧ (aSg y = -7 → y = 61) ∧ (aSg y = -8 → y = 62) := by
  unfold aSg
  by_cases q1 : y = 40
  · rw [if_pos q1]; refine ⟨fun h => ?_, fun h => ?_, fun h => ?_, fun h => ?_, fun h => ?_, fun h => ?_⟩ <;> omega
  rw [if_neg q1]
  by_cases q2 : y = 41
  · rw [if_pos q2]; refine ⟨fun h => ?_, fun h => ?_, fun h => ?_, fun h => ?_, fun h => ?_, fun h => ?_⟩ <;> omega
  rw [if_neg q2]
  by_cases q3 : y = 59
  · rw [if_pos q3]; refine ⟨fun h => ?_, fun h => ?_, fun h => ?_, fun h => ?_, fun h => ?_, fun h => ?_⟩ <;> omega
  rw [if_neg q3]
  by_cases q4 : y = 60
  · rw [if_pos q4]; refine ⟨fun h => ?_, fun h => ?_, fun h => ?_, fun h => ?_, fun h => ?_, fun h => ?_⟩ <;> omega
  rw [if_neg q4]
  by_cases q5 : y = 61
  · rw [if_pos q5]; refine ⟨fun h => ?_, fun h => ?_, fun h => ?_, fun h => ?_, fun h => ?_, fun h => ?_⟩ <;> omega
  rw [if_neg q5]
  by_cases q6 : y = 62
  · rw [if_pos q6]; refine ⟨fun h => ?_, fun h => ?_, fun h => ?_, fun h => ?_, fun h => ?_, fun h => ?_⟩ <;> omega
  rw [if_neg q6]
  refine ⟨fun h => ?_, fun h => ?_, fun h => ?_, fun h => ?_, fun h => ?_, fun h => ?_⟩ <;> omega
theorem aWe_60 {t : zXt} {s : Nat} : (aBt t s = 60) = (aWe t s = -6) := aWe_g (by decide) (by decide) (by decide) (by decide) (fun y h => (aSg_u y).2.2.2.1 h) (by decide) (by decide +kernel) (by decide) (by decide)
theorem aWe_61 {t : zXt} {s : Nat} : (aBt t s = 61) = (aWe t s = -7) := aWe_g (by decide) (by decide) (by decide) (by decide) (fun y h => (aSg_u y).2.2.2.2.1 h) (by decide) (by decide +kernel) (by decide) (by decide)
theorem aWe_62 {t : zXt} {s : Nat} : (aBt t s = 62) = (aWe t s = -8) := aWe_g (by decide) (by decide) (by decide) (by decide) (fun y h => (aSg_u y).2.2.2.2.2 h) (by decide) (by decide +kernel) (by decide) (by decide)
theorem aWe_40 {t : zXt} {s : Nat} : (aBt t s = 40) = (aWe t s = -12) := aWe_g (by decide) (by decide) (by decide) (by decide) (fun y h => (aSg_u y).1 h) (by decide) (by decide +kernel) (by decide) (by decide)
theorem aWe_41 {t : zXt} {s : Nat} : (aBt t s = 41) = (aWe t s = -13) := aWe_g (by decide) (by decide) (by decide) (by decide) (fun y h => (aSg_u y).2.1 h) (by decide) (by decide +kernel) (by decide) (by decide)
theorem aWe_59 {t : zXt} {s : Nat} : (aBt t s = 59) = (aWe t s = -14) := aWe_g (by decide) (by decide) (by decide) (by decide) (fun y h => (aSg_u y).2.2.1 h) (by decide) (by decide +kernel) (by decide) (by decide)
theorem mBd_24 {t : zXt} {s o : Nat} {σ : zM} (h : mBd t s o σ) : mBd t s o (zwI σ 0 60 24 1) := ⟨mTk_24 h.1, by rw [zfs]; rfl, by rw [zfe (by omega)]; exact h.2.2⟩
theorem zm243_48x {d s o : Nat} {a s0 : Int32} {t : zXt} {σ : zM} (w : wT t) (h : mBd t s o σ) (hs0 : s ≤ t.1) : zrun (zev (d + 6)) zT_243 48 [some (.inr (.inr (0, 60))), some (.inl a)] [.inl s0, .inr (.inr (0, 60))] σ = some (0, 0, zwI σ 0 60 24 1) := by
  have h2 := mBd_24 h
  rw [ez_243_48, zm236x (d := d + 5) h.2.1]
  simp only [zbs, zm242x (d := d) w h2.1 hs0 h2.2.1, zm241x (d := d + 5) h2.2.1]
  split
  · rfl
  · split <;> rfl
theorem zm243 {d s m o : Nat} {t : zXt} {S : zS} {σ : zM} (w : wT t) (h : mOk t s m o S σ) (hs0 : s ≤ t.1) (hk : m + 3 ≤ 200) : ∃ τ, zev (d + 8) 243 [.inr (.inr (0, 60))] σ = some (0, 0, τ) ∧ zFr Wmp σ τ ∧ (-5 ≤ aWe t s → -8 ≤ aWe t (nx t s) ∧ aWe t (nx t s) ≤ -6 → -5 ≤ aWe t (nx t (nx t s)) → mOk t (nx t (nx t (nx t s))) (m + 1 + 1 + 1) o (zup (zup (zup S (120 + m) (aWe t s)) (120 + (m + 1)) (aWe t (nx t (nx t s)))) (120 + (m + 1 + 1)) (aWe t (nx t s) - 5)) τ) ∧ (¬ -5 ≤ aWe t s → mBd t s o τ) ∧ (-5 ≤ aWe t s → ¬ (-8 ≤ aWe t (nx t s) ∧ aWe t (nx t s) ≤ -6) → mBd t (nx t s) o τ) ∧ (-5 ≤ aWe t s → -8 ≤ aWe t (nx t s) ∧ aWe t (nx t s) ≤ -6 → ¬ -5 ≤ aWe t (nx t (nx t s)) → mBd t (nx t (nx t s)) o τ) := by
  have hl := w.1
  have n1 := nx_l hs0
  have n2 := nx_l n1.2
  obtain ⟨τ, g1, g2, g3, g4⟩ := zm242 (d := d) w h hs0 (by omega)
  rw [ez_243]
  simp only [g1, zbs]
  by_cases q1 : -5 ≤ aWe t s
  case neg =>
    have hb := g4 q1
    rw [hb.2.1]
    simp only [zBi, cond_true]
    rw [ez_243_23, if_neg (by decide), if_neg (by decide), if_neg (by decide), zm243_48x (d := d + 1) w hb hs0]
    exact ⟨_, rfl, zFr_tt g2 (zFr_w (by omega)), fun z => absurd z q1, fun _ => mBd_24 hb, fun z => absurd z q1, fun z => absurd z q1⟩
  case pos =>
  have ho : mOk t (nx t s) (m + 1) o (zup S (120 + m) (aWe t s)) τ := g3 q1
  have hb := aBt_r w (nx t s)
  rw [ho.2.1]
  simp only [zBi, cond_false, ho.1.2.1, zm232 (d := d + 6) ho.1.1 w (show nx t s ≤ 1000 by omega), zbs]
  have e60 : (iI (aBt t (nx t s)) = 60) = (aWe t (nx t s) = -6) := (iI_eq (b := 60) (by omega) (by decide)).trans aWe_60
  have e61 : (iI (aBt t (nx t s)) = 61) = (aWe t (nx t s) = -7) := (iI_eq (b := 61) (by omega) (by decide)).trans aWe_61
  have e62 : (iI (aBt t (nx t s)) = 62) = (aWe t (nx t s) = -8) := (iI_eq (b := 62) (by omega) (by decide)).trans aWe_62
  rw [ez_243_23]
  simp only [e60, e61, e62, ez_243_43]
  by_cases q2 : -8 ≤ aWe t (nx t s) ∧ aWe t (nx t s) ≤ -6
  case neg =>
    rw [if_neg (by omega), if_neg (by omega), if_neg (by omega)]
    have hF := zm236f (d := d + 6) (σ := τ) ho.2.1
    have hb2 : mBd t (nx t s) o (zwI τ 0 60 24 1) := ⟨mTk_24 ho.1, by rw [zfs]; rfl, by rw [zfe (by omega)]; exact ho.2.2.1⟩
    rw [ez_243_48, hF]
    simp only [zbs, zm242x (d := d + 1) w hb2.1 n1.2 hb2.2.1, zm241x (d := d + 6) hb2.2.1]
    refine ⟨zwI τ 0 60 24 1, ?_, zFr_tt g2 (zFr_w (by omega)), fun _ z => absurd z q2, fun z => absurd q1 z, fun _ _ => hb2, fun _ z => absurd z q2⟩
    split
    · rfl
    · split <;> rfl
  case pos =>
  have e48 : ∀ {y : zR}, (zrun (zev (d + 7)) zT_243 48 [some (.inr (.inr (0, 60))), some (.inl (iI (aBt t (nx t s))))] [.inl 1, .inr (.inr (0, 60))] τ = y) → (if aWe t (nx t s) = -6 then zrun (zev (d + 7)) zT_243 48 [some (.inr (.inr (0, 60))), some (.inl (iI (aBt t (nx t s))))] [.inl 1, .inr (.inr (0, 60))] τ else if aWe t (nx t s) = -7 then zrun (zev (d + 7)) zT_243 48 [some (.inr (.inr (0, 60))), some (.inl (iI (aBt t (nx t s))))] [.inl 1, .inr (.inr (0, 60))] τ else if aWe t (nx t s) = -8 then zrun (zev (d + 7)) zT_243 48 [some (.inr (.inr (0, 60))), some (.inl (iI (aBt t (nx t s))))] [.inl 1, .inr (.inr (0, 60))] τ else zrun (zev (d + 7)) zT_243 48 [some (.inr (.inr (0, 60))), some (.inl (iI (aBt t (nx t s))))] [.inl 0, .inr (.inr (0, 60))] τ) = y := by
    intro y hy
    repeat' split
    all_goals first | exact hy | omega
  obtain ⟨τ2, f1, f2, f3, f4⟩ := zm236t (d := d + 2) w ho.1 (aTf_l n1.2).2 ho.2.1
  have ho2 : mOk t (nx t (nx t s)) (m + 1) o (zup S (120 + m) (aWe t s)) τ2 := ⟨f3, f4, mMm_f ho.2.2 f2⟩
  obtain ⟨τ3, y1, y2, y3, y4⟩ := zm242 (d := d) w ho2 n2.2 (by omega)
  have fr : zFr Wmp σ τ3 := zFr_tt (zFr_tt g2 (zFr_i f2 fun _ _ _ q => by omega)) y2
  by_cases q3 : -5 ≤ aWe t (nx t (nx t s))
  · have ho3 := y3 q3
    obtain ⟨τ4, x1, x2, x3⟩ := zm241 (d := d + 6) (p := aWe t (nx t s) - 5) ho3 (by omega)
    refine ⟨τ4, e48 ?_, zFr_tt fr x2, fun _ _ _ => x3, fun z => absurd q1 z, fun _ z => absurd q2 z, fun _ _ z => absurd q3 z⟩
    rw [ez_243_48, f1]
    simp only [zbs, y1, e60, e61]
    by_cases a : aWe t (nx t s) = -6
    · rw [if_pos a]
      rw [a] at x1
      have x1 : zev (d + 7) 241 [.inr (.inr (0, 60)), .inl (-11)] τ3 = _ := x1
      rw [x1]; rfl
    · rw [if_neg a]
      by_cases b : aWe t (nx t s) = -7
      · rw [if_pos b]
        rw [b] at x1
        have x1 : zev (d + 7) 241 [.inr (.inr (0, 60)), .inl (-12)] τ3 = _ := x1
        rw [x1]; rfl
      · rw [if_neg b]
        rw [show aWe t (nx t s) = -8 by omega] at x1
        have x1 : zev (d + 7) 241 [.inr (.inr (0, 60)), .inl (-13)] τ3 = _ := x1
        rw [x1]; rfl
  · have hb3 := y4 q3
    refine ⟨τ3, e48 ?_, fr, fun _ _ z => absurd z q3, fun z => absurd q1 z, fun _ z => absurd q2 z, fun _ _ _ => hb3⟩
    rw [ez_243_48, f1]
    simp only [zbs, y1, zm241x (d := d + 6) hb3.2.1]
    split
    · rfl
    · split <;> rfl
