theorem aDL {z : Int} (h : aDg z = true) : aLt z = false := by
  have h : 48 ≤ z ∧ z ≤ 57 := of_decide_eq_true h
  exact decide_eq_false (by omega)
theorem aWe_n {t : zXt} {s : Nat} : (0 ≤ aWe t s ↔ aDg (aBt t s) = true ∧ aTf t s - s ≤ 4) ∧ (0 ≤ aWe t s → s < t.1 ∧ aWe t s = aNv t s (aTf t s - s) ∧ aWe t s ≤ 9999) := by
  unfold aWe aBt
  by_cases q : s < t.1
  · rw [if_pos q, if_pos q, show aTf t s = aTe t s from if_pos q]
    unfold aWd
    cases q2 : aLt (t.2 s)
    · rw [cond_false]
      cases q3 : aDg (t.2 s)
      · rw [cond_false]
        have := aSg_v (t.2 s)
        refine ⟨⟨fun h => by omega, fun h => by cases h.1⟩, fun h => by omega⟩
      · rw [cond_true]
        have hv := aNv_r (t := t) (s := s) (aTe t s - s) (aTe_d q2 q3)
        by_cases q4 : 4 < aTe t s - s
        · rw [if_pos q4]
          exact ⟨⟨fun h => by omega, fun h => by omega⟩, fun h => by omega⟩
        · rw [if_neg q4]
          refine ⟨⟨fun _ => ⟨rfl, by omega⟩, fun _ => hv.1⟩, fun _ => ⟨q, rfl, ?_⟩⟩
          have hp : (10 : Int) ^ (aTe t s - s) ≤ 10 ^ 4 := by
            rcases (by omega : aTe t s - s = 0 ∨ aTe t s - s = 1 ∨ aTe t s - s = 2 ∨ aTe t s - s = 3 ∨ aTe t s - s = 4) with e | e | e | e | e <;> rw [e] <;> decide
          have : (10 : Int) ^ 4 = 10000 := by decide
          omega
    · rw [cond_true]
      have hn : aNwd (aIs t s) < 0 := by
        rcases aNwd_i (aIs t s) with ⟨i, i1, i2, i3⟩ | ⟨-, h2⟩
        · have := (zCd_s i i1).1; omega
        · omega
      refine ⟨⟨fun h => by omega, fun h => ?_⟩, fun h => by omega⟩
      rw [aDL h.1] at q2; cases q2
  · rw [if_neg q, if_neg q]
    exact ⟨⟨fun h => by omega, fun h => by cases h.1⟩, fun h => by omega⟩
abbrev Wnm : Nat → Nat → Nat → Prop := fun g k i => g = 0 ∧ k = 60 ∧ (i = 19 ∨ i = 20 ∨ i = 21 ∨ i = 24)
theorem mTk_21 {t : zXt} {s e : Nat} {v : Int32} {σ : zM} (h : mTk t s e σ) : mTk t s e (zwI σ 0 60 21 v) := ⟨⟨by rw [zfe (by omega)]; exact h.1.1, fun i hi => by rw [zfe (by omega)]; exact h.1.2 i hi⟩, by rw [zfe (by omega)]; exact h.2.1, by rw [zfe (by omega)]; exact h.2.2⟩
theorem zm238 {d s : Nat} {a : Int} {t : zXt} {σ : zM} (w : wT t) (h : mTk t s (aTf t s) σ) (hs0 : s ≤ t.1) (hF : σ.1 0 60 24 = zB false) (ha : 0 ≤ a ∧ a ≤ 9999) : ∃ τ, zev (d + 6) 238 [.inr (.inr (0, 60)), .inl (iI a)] σ = some (0, 0, τ) ∧ zFr Wnm σ τ ∧ (0 ≤ aWe t s ∧ aWe t s ≤ a → mTk t (aTs t (aTf t s)) (aTf t (aTs t (aTf t s))) τ ∧ τ.1 0 60 24 = zB false ∧ τ.1 0 60 21 = iI (aWe t s)) ∧ (¬ (0 ≤ aWe t s ∧ aWe t s ≤ a) → mTk t s (aTf t s) τ ∧ τ.1 0 60 24 = zB true) := by
  have hl := w.1
  have hb := aBt_r w s
  have he := aTf_l hs0
  obtain ⟨n1, n2⟩ := aWe_n (t := t) (s := s)
  have e5 : (iI ((aTf t s : Nat) : Int) - iI (s : Int) < 5) = (((aTf t s : Nat) : Int) - s < 5) := by
    rw [iI_sub]; exact iI_lt (b := 5) (by omega) (by decide)
  have hz := mTk_21 (v := 0) h
  have hzF : (zwI σ 0 60 21 0).1 0 60 24 = zB false := by rw [zfe (by omega)]; exact hF
  have no : ∀ τ, mTk t s (aTf t s) τ → τ.1 0 60 24 = zB false → ∃ υ, zev (d + 5) 236 [.inr (.inr (0, 60)), .inl 0] τ = some (0, 0, υ) ∧ zFr Wnm τ υ ∧ mTk t s (aTf t s) υ ∧ υ.1 0 60 24 = zB true := fun τ h1 h2 => ⟨_, zm236f (d := d + 4) h2, zFr_w (by omega), mTk_24 h1, by rw [zfs]; rfl⟩
  have bad : ∀ a3, ∃ υ, zrun (zev (d + 5)) zT_238 43 [some (.inr (.inr (0, 60))), some (.inl (iI a)), some (.inl 0), some (.inl a3)] [] (zwI σ 0 60 21 0) = some (0, 0, υ) ∧ zFr Wnm σ υ ∧ mTk t s (aTf t s) υ ∧ υ.1 0 60 24 = zB true := fun a3 => by
    obtain ⟨υ, y1, y2, y3, y4⟩ := no _ hz hzF
    refine ⟨υ, ?_, zFr_tt (zFr_w (by omega)) y2, y3, y4⟩
    rw [ez_238_43]
    simp only [y1, zbs, if_true]
    split <;> rfl
  have h19 : (zwI σ 0 60 21 0).1 0 60 19 = iI s := hz.2.1
  rw [ez_238]
  simp only [h.2.1, h.2.2, zm232 (d := d + 4) h.1 w (show s ≤ 1000 by omega), zbs, zm234 (d := d + 3) (show zrn (aBt t s) by omega), zBi, e5, h19]
  by_cases q : 0 ≤ aWe t s
  case neg =>
    have neg : ¬ (0 ≤ aWe t s ∧ aWe t s ≤ a) := fun z => q z.1
    have fin : ∃ τ, zrun (zev (d + 5)) zT_238 43 [some (.inr (.inr (0, 60))), some (.inl (iI a)), some (.inl 0), some (.inl (iI s))] [] (zwI σ 0 60 21 0) = some (0, 0, τ) ∧ zFr Wnm σ τ ∧ (0 ≤ aWe t s ∧ aWe t s ≤ a → mTk t (aTs t (aTf t s)) (aTf t (aTs t (aTf t s))) τ ∧ τ.1 0 60 24 = zB false ∧ τ.1 0 60 21 = iI (aWe t s)) ∧ (¬ (0 ≤ aWe t s ∧ aWe t s ≤ a) → mTk t s (aTf t s) τ ∧ τ.1 0 60 24 = zB true) := by
      obtain ⟨υ, y1, y2, y3⟩ := bad (iI s)
      exact ⟨υ, y1, y2, fun z => absurd z neg, fun _ => y3⟩
    cases q2 : aDg (aBt t s)
    · exact fin
    · rw [cond_true]
      rw [if_neg (fun z => q (n1.mpr ⟨q2, by omega⟩))]
      exact fin
  case pos =>
    obtain ⟨q2, q3⟩ := n1.mp q
    obtain ⟨v1, v2, v3⟩ := n2 q
    rw [q2, cond_true, if_pos (by omega)]
    have hdg : ∀ i, i < aTf t s - s → aDg (t.2 (s + i)) = true := by
      have e0 : aBt t s = t.2 s := if_pos v1
      rw [e0] at q2
      have := aTe_d (aDL q2) q2
      rwa [show aTf t s = aTe t s from if_pos v1]
    have key : ∀ (n k : Nat) (τ : zM), k + n = aTf t s - s → mTk t s (aTf t s) τ → τ.1 0 60 24 = zB false → τ.1 0 60 21 = iI (aNv t s k) → ∃ υ, zrun (zev (d + 5)) zT_238 43 [some (.inr (.inr (0, 60))), some (.inl (iI a)), some (.inl 1), some (.inl (iI ((s + k : Nat) : Int)))] [] τ = some (0, 0, υ) ∧ zFr Wnm τ υ ∧ (0 ≤ aWe t s ∧ aWe t s ≤ a → mTk t (aTs t (aTf t s)) (aTf t (aTs t (aTf t s))) υ ∧ υ.1 0 60 24 = zB false ∧ υ.1 0 60 21 = iI (aWe t s)) ∧ (¬ (0 ≤ aWe t s ∧ aWe t s ≤ a) → mTk t s (aTf t s) υ ∧ υ.1 0 60 24 = zB true) := by
      intro n
      induction n with
      | zero =>
        intro k τ hk h1 h2 h3
        have ek : k = aTf t s - s := by omega
        rw [ek, ← v2] at h3
        rw [ez_238_43, h1.2.2, if_neg (by rw [iI_lt (by omega) (by omega)]; omega), if_neg (by decide), h3]
        simp only [iI_lt (show zrn a by omega) (show zrn (aWe t s) by omega)]
        by_cases q4 : a < aWe t s
        · obtain ⟨υ, y1, y2, y3⟩ := no τ h1 h2
          rw [if_pos q4, y1]
          exact ⟨υ, rfl, y2, fun z => by omega, fun _ => y3⟩
        · obtain ⟨υ, y1, y2, y3, y4⟩ := zm236t (d := d) w h1 he.2 h2
          rw [if_neg q4, y1]
          exact ⟨υ, rfl, zFr_i y2 fun _ _ _ q => by omega, fun _ => ⟨y3, y4, (y2.1 _ _ _ (by omega)).trans h3⟩, fun z => absurd ⟨q, by omega⟩ z⟩
      | succ n ih =>
        intro k τ hk h1 h2 h3
        have dk : 48 ≤ t.2 (s + k) ∧ t.2 (s + k) ≤ 57 := of_decide_eq_true (hdg k (by omega))
        have ev : 10 * iI (aNv t s k) + iI (t.2 (s + k)) - 48 = iI (aNv t s (k + 1)) := by
          show iI 10 * iI (aNv t s k) + iI (t.2 (s + k)) - iI 48 = _
          rw [iI_mul, iI_add, iI_sub]
          congr 1
          show _ = aNv t s k * 10 + (t.2 (s + k) - 48)
          omega
        have i0 : ∀ {τ : zM} {v : Int32}, zFr Wnm τ (zwI τ 0 60 21 v) := fun {τ v} => zFr_w (by omega)
        rw [ez_238_43, h1.2.2, if_pos (by rw [iI_lt (by omega) (by omega)]; omega), if_neg (by decide), zgd_t (iI_ink (z := ((s + k : Nat) : Int)) (k := s + k) rfl (show s + k < 200 by omega) (by decide)), iI_Nn (show s + k ≤ 2147483647 by omega), h1.1.2 (s + k) (by omega), h3, ev, hki1]
        obtain ⟨υ, y1, y2, y3⟩ := ih (k + 1) _ (by omega) (mTk_21 h1) (by rw [zfe (by omega)]; exact h2) zfs
        exact ⟨υ, y1, zFr_tt i0 y2, y3⟩
    obtain ⟨υ, y1, y2, y3⟩ := key (aTf t s - s) 0 (zwI σ 0 60 21 0) (by omega) hz hzF (by rw [zfs]; rfl)
    exact ⟨υ, y1, zFr_tt (zFr_w (by omega)) y2, y3⟩
