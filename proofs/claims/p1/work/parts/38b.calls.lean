/-! bough -/
/-- one more bough; on: -1 the trunk -/
def aNw (S : zS) (n : Nat) (k on l h : Int) : zS := zup (zup (zup (zup (zup (zup S (7 + 5 * n) k) (8 + 5 * n) (on + 1)) (9 + 5 * n) l) (10 + 5 * n) h) (11 + 5 * n) 0) 0 ((n + 1 : Nat) : Int)
theorem aNw_n {S : zS} {n i : Nat} {k on l h : Int} (h1 : i < 7 + 5 * n ∨ 11 + 5 * n < i) (h2 : i ≠ 0) : aNw S n k on l h i = S i := by
  unfold aNw
  rw [zup_n h2, zup_n (by omega), zup_n (by omega), zup_n (by omega), zup_n (by omega), zup_n (by omega)]
theorem aNw_0 {S : zS} {n : Nat} {k on l h : Int} : aNw S n k on l h 0 = ((n + 1 : Nat) : Int) := zup_s
theorem aNw_at {S : zS} {n : Nat} {k on l h : Int} : aNw S n k on l h (7 + 5 * n) = k ∧ aNw S n k on l h (8 + 5 * n) = on + 1 ∧ aNw S n k on l h (9 + 5 * n) = l ∧ aNw S n k on l h (10 + 5 * n) = h ∧ aNw S n k on l h (11 + 5 * n) = 0 := by
  unfold aNw
  refine ⟨?_, ?_, ?_, ?_, ?_⟩
  · rw [zup_n (by omega), zup_n (by omega), zup_n (by omega), zup_n (by omega), zup_n (by omega), zup_s]
  · rw [zup_n (by omega), zup_n (by omega), zup_n (by omega), zup_n (by omega), zup_s]
  · rw [zup_n (by omega), zup_n (by omega), zup_n (by omega), zup_s]
  · rw [zup_n (by omega), zup_n (by omega), zup_s]
  · rw [zup_n (by omega), zup_s]
theorem wA_nw {S : zS} {n : Nat} {k on l h : Int} (w : wA S) (hn : S 0 = n) (hn9 : n < 9) (hk : 1 ≤ k ∧ k ≤ 5) (ho : -1 ≤ on ∧ on < n) (hl : 1 ≤ l ∧ l ≤ 9) (hh : 1 ≤ h ∧ h ≤ 999) : wA (aNw S n k on l h) := by
  obtain ⟨wb, ww, wp, wr, wu, wz⟩ := w
  have p1 := wp.2.1
  have e : ∀ i, i ≠ 0 → (i < 7 ∨ 52 ≤ i) → aNw S n k on l h i = S i := fun i a b => aNw_n (by omega) a
  obtain ⟨a1, a2, a3, a4, a5⟩ := aNw_at (S := S) (n := n) (k := k) (on := on) (l := l) (h := h)
  refine ⟨⟨by rw [aNw_0]; omega, by rw [aNw_0]; omega, fun b hb => ?_⟩, wW_c ww (e 4 (by omega) (by omega)) (e 5 (by omega) (by omega)), ⟨by rw [e 2 (by omega) (by omega)]; exact wp.1, by rw [e 2 (by omega) (by omega)]; exact wp.2.1, fun p hp => ?_⟩, wR_c wr (e 3 (by omega) (by omega)) (by rw [aNw_0]; omega) (fun i _ _ => e i (by omega) (by omega)), wU_c wu (e 1 (by omega) (by omega)) (fun i hi => e i (by omega) (by omega)), by rw [e 6 (by omega) (by omega)]; exact wz⟩
  · rw [aNw_0] at hb
    by_cases q : b = n
    · subst q
      rw [a1, a2, a3, a4, a5]; omega
    · have := wb.2.2 b (by omega)
      rw [aNw_n (by omega) (by omega), aNw_n (by omega) (by omega), aNw_n (by omega) (by omega), aNw_n (by omega) (by omega), aNw_n (by omega) (by omega)]
      exact this
  · rw [e 2 (by omega) (by omega)] at hp
    have := wp.2.2 p hp
    rw [e _ (by omega) (by omega), e _ (by omega) (by omega), e _ (by omega) (by omega), aNw_0]
    omega
theorem aNw_ab {S : zS} {n : Nat} {k on l h : Int} (wb : wB S) (hn : S 0 = n) {c u : Nat} (hc : c < n) : aAb (aNw S n k on l h) c u = aAb S c u := by
  have key : ∀ (m c : Nat), c < n → aAbF (aNw S n k on l h) m c u = aAbF S m c u := by
    intro m
    induction m with
    | zero => intro c _; rfl
    | succ m ih =>
      intro c hc
      have w2 := wb.2.2 c (by omega)
      have e : aPar (aNw S n k on l h) c = aPar S c := by unfold aPar; rw [aNw_n (by omega) (by omega)]
      show (Nat.beq c u || (decide (0 ≤ aPar (aNw S n k on l h) c) && aAbF (aNw S n k on l h) m (aPar (aNw S n k on l h) c).toNat u)) = (Nat.beq c u || (decide (0 ≤ aPar S c) && aAbF S m (aPar S c).toNat u))
      rw [e]
      by_cases q : 0 ≤ aPar S c
      · rw [ih _ (by unfold aPar at q ⊢; omega)]
      · rw [decide_eq_false q, Bool.false_and, Bool.false_and]
  exact key 9 c hc
theorem zc12 {d n : Nat} {k on l h : Int} {S : zS} {σ : zM} (hB : cB 0 S σ) (wb : wB S) (hn : S 0 = n) (hn9 : n < 9) (ho : -1 ≤ on ∧ on < n) : ∃ v : Int32, zev (d + 2) 12 [.inr (.inr (0, 1)), .inl (iI k), .inl (iI (cE on)), .inl (iI l), .inl (iI h)] σ = some (iI n, 0, zwI (zwI (zwI (zwI (zwI (zwI σ 0 2 n (iI k)) 0 3 n (iI (cE on))) 0 4 n (iI l)) 0 5 n (iI h)) 0 6 n v) 0 1 0 (iI ((n + 1 : Nat) : Int))) ∧ ∀ u, u < 9 → bt v u = (Nat.beq n u || aAbI S on u) := by
  have h0 : σ.1 0 1 0 = iI n := by rw [← hn]; exact hB.1
  have e4 : (zwI (zwI (zwI (zwI σ 0 2 n (iI k)) 0 3 n (iI (cE on))) 0 4 n (iI l)) 0 5 n (iI h)).1 0 1 0 = iI (S 0) := by rw [zfe (by omega), zfe (by omega), zfe (by omega), zfe (by omega)]; exact hB.1
  have e5 : ∀ v : Int32, (zwI (zwI (zwI (zwI (zwI σ 0 2 n (iI k)) 0 3 n (iI (cE on))) 0 4 n (iI l)) 0 5 n (iI h)) 0 6 n v).1 0 1 0 = iI n := fun v => by rw [zfe (by omega), e4, hn]
  have hcz : zrn (cE on) := by unfold cE; split <;> omega
  have hb1 : ∀ u, u < 9 → bt (1 <<< (iI n &&& 31)) u = Nat.beq n u := fun u hu => by
    rw [bt_one (by omega) (by omega)]
    cases q : Nat.beq n u
    · exact decide_eq_false (fun z => by rw [z, Nat.beq_refl] at q; cases q)
    · exact decide_eq_true (Nat.eq_of_beq_eq_true q).symm
  rw [ez_12]
  simp only [h0, zgd_t (iI_ink (z := n) (k := n) rfl hn9 (by decide)), iI_Nn (show n ≤ 2147483647 by omega), zc13 e4 (show 0 ≤ S 0 ∧ S 0 ≤ 9 by omega) hcz, zbs, zBi, e5, hki1]
  by_cases q : on < 0
  · rw [decide_eq_false (by rw [show cE on = -9 from if_pos q]; omega), cond_false]
    refine ⟨_, rfl, fun u hu => ?_⟩
    rw [Int32.or_zero, hb1 u hu, aAbI_n q, Bool.or_false]
  · have hce : cE on = on := if_neg q
    obtain ⟨m, rfl⟩ := zint (show 0 ≤ on by omega)
    rw [hce, decide_eq_true (by omega), cond_true]
    simp only [zgd_t (iI_ink (z := m) (k := m) rfl (show m < 9 by omega) (by decide)), iI_Nn (show m ≤ 2147483647 by omega)]
    refine ⟨_, rfl, fun u hu => ?_⟩
    rw [b_or, hb1 u hu, zfe (by omega), zfe (by omega), zfe (by omega), zfe (by omega), (hB.2 m (by omega)).2.2.2.2 u hu, aAbI_p]
theorem zx_84 {x : zXx} (w : WX x) (k on l h : Int) (hk : zrn k) (ho : zrn on) (hl : zrn l) (hh : zrn h) : zCall 84 160 [.inl (iI k), .inl (iI on), .inl (iI l), .inl (iI h)] x := by
  obtain ⟨wb, ww, wp, wr, wu, wz⟩ := w.1
  have b0 := wb.1
  have b1 := wb.2.1
  have r1 : ∀ {σ : zM}, zev 63 142 [.inl (iI k)] σ = some (zB (decide (1 ≤ k ∧ k ≤ 5)), 0, σ) := fun {σ} => by
    have e : zev 62 141 [.inl (iI k), .inl 1, .inl 5] σ = some (zB (decide (1 ≤ k ∧ k ≤ 5)), 0, σ) := zc141 (l := 1) (h := 5) hk (by decide) (by decide)
    rw [ez_142]
    simp only [e, zbs]
    exact zB_g
  have r2 : ∀ {σ : zM}, zev 63 141 [.inl (iI l), .inl 1, .inl 9] σ = some (zB (decide (1 ≤ l ∧ l ≤ 9)), 0, σ) := zc141 (l := 1) (h := 9) hl (by decide) (by decide)
  have r3 : ∀ {σ : zM}, zev 63 141 [.inl (iI h), .inl 1, .inl 999] σ = some (zB (decide (1 ≤ h ∧ h ≤ 999)), 0, σ) := zc141 (l := 1) (h := 999) hh (by decide) (by decide)
  have m1 : ∀ {σ : zM}, zev 63 149 [.inr (.inl (Int32.toInt64 (iI k))), .inr (.inl 1), .inr (.inl 5)] σ = some (zB (decide (1 ≤ k ∧ k ≤ 5)), 0, σ) := zm149k (l := 1) (h := 5) hk (by decide) (by decide)
  have m2 : ∀ {σ : zM}, zev 63 159 [.inl 2, .inl (iI l)] σ = some (zB (decide (1 ≤ l ∧ l ≤ 9)), 0, σ) := fun {σ} => by
    have := zm159 (d := 61) (a := 2) (v := l) (σ := σ) (by decide) hl
    rw [zdec (show (((2 : Int) = 2 ∧ 1 ≤ l ∧ l ≤ 9) ∨ ((2 : Int) = 3 ∧ 1 ≤ l ∧ l ≤ 999)) ↔ (1 ≤ l ∧ l ≤ 9) by omega)] at this
    exact this
  have m3 : ∀ {σ : zM}, zev 63 159 [.inl 3, .inl (iI h)] σ = some (zB (decide (1 ≤ h ∧ h ≤ 999)), 0, σ) := fun {σ} => by
    have := zm159 (d := 61) (a := 3) (v := h) (σ := σ) (by decide) hh
    rw [zdec (show (((3 : Int) = 2 ∧ 1 ≤ h ∧ h ≤ 9) ∨ ((3 : Int) = 3 ∧ 1 ≤ h ∧ h ≤ 999)) ↔ (1 ≤ h ∧ h ≤ 999) by omega)] at this
    exact this
  have eo : (iI on = -1) = (on = -1) := by rw [zlitm1]; exact iI_eq ho (by decide)
  -- the head of both, as far as lengths are asked
  have hc : ∀ σ, RC x σ → (¬ (1 ≤ k ∧ k ≤ 5) ∨ (on ≠ -1 ∧ ¬ (0 ≤ on ∧ on < x.1 0)) → zev 64 84 [.inr (.inr (0, 30)), .inl (iI k), .inl (iI on), .inl (iI l), .inl (iI h)] σ = some (-1, 0, σ)) ∧ ((1 ≤ k ∧ k ≤ 5) → (on = -1 ∨ (0 ≤ on ∧ on < x.1 0)) → zev 64 84 [.inr (.inr (0, 30)), .inl (iI k), .inl (iI on), .inl (iI l), .inl (iI h)] σ = zrun (zev 63) zT_84 40 [some (.inr (.inr (0, 30))), some (.inl (iI k)), some (.inl (iI on)), some (.inl (iI l)), some (.inl (iI h)), some (.inl (zB (decide (on = -1))))] [] σ) := by
    intro σ hR
    have e13 := zc13 (d := 62) (z := on) hR.1.1.1 ⟨b0, b1⟩ ho
    rw [ez_84]
    simp only [eo]
    constructor
    · intro hbad
      by_cases q : on = -1
      · rw [if_pos q, ez_84_10, r1, decide_eq_false (by omega)]; rfl
      · rw [if_neg q, ez_84_10, r1]
        simp only [zbs, zBi]
        by_cases q1 : 1 ≤ k ∧ k ≤ 5
        · rw [decide_eq_true q1, cond_true, if_pos trivial, e13, decide_eq_false (by omega)]; rfl
        · rw [decide_eq_false q1]; rfl
    · intro q1 q2
      by_cases q : on = -1
      · rw [if_pos q, ez_84_10, r1, decide_eq_true q1, decide_eq_true q]
        simp only [zbs, zBi, cond_true]
        rw [if_neg (by decide)]
        rfl
      · rw [if_neg q, ez_84_10, r1, decide_eq_true q1, decide_eq_false q]
        simp only [zbs, zBi, cond_true]
        rw [if_pos trivial, e13, decide_eq_true (by omega)]
        simp only [zbs, zBi, cond_true]
        rfl
  have hm : ∀ σ, RM x σ → (¬ (1 ≤ k ∧ k ≤ 5) ∨ (on ≠ -1 ∧ ¬ (0 ≤ on ∧ on < x.1 0)) → zev 64 160 [.inr (.inr (0, 60)), .inl (iI k), .inl (iI on), .inl (iI l), .inl (iI h)] σ = some (-1, 0, σ)) ∧ ((1 ≤ k ∧ k ≤ 5) → (on = -1 ∨ (0 ≤ on ∧ on < x.1 0)) → zev 64 160 [.inr (.inr (0, 60)), .inl (iI k), .inl (iI on), .inl (iI l), .inl (iI h)] σ = zrun (zev 63) zT_160 25 [some (.inr (.inr (0, 60))), some (.inl (iI k)), some (.inl (iI on)), some (.inl (iI l)), some (.inl (iI h)), none] [] σ) := by
    intro σ hR
    have e15 := zm150 (d := 61) (z := on) hR.1 ⟨b0, b1⟩ ho
    rw [ez_160]
    simp only [eo, m1, zbs, zBi]
    constructor
    · intro hbad
      by_cases q1 : 1 ≤ k ∧ k ≤ 5
      · rw [decide_eq_true q1, cond_true, if_neg (by omega), e15, decide_eq_false (by omega)]; rfl
      · rw [decide_eq_false q1]; rfl
    · intro q1 q2
      rw [decide_eq_true q1, cond_true]
      by_cases q : on = -1
      · rw [if_pos q]
      · rw [if_neg q, e15, decide_eq_true (by omega)]; rfl
  by_cases q1 : 1 ≤ k ∧ k ≤ 5
  case neg => exact zCq (-1) w (fun σ hR => ⟨σ, (hc σ hR).1 (Or.inl q1), zFr_r σ⟩) (fun σ hR => ⟨σ, (hm σ hR).1 (Or.inl q1), zFr_r σ, hR.1⟩)
  case pos =>
  by_cases q2 : on = -1 ∨ (0 ≤ on ∧ on < x.1 0)
  case neg => exact zCq (-1) w (fun σ hR => ⟨σ, (hc σ hR).1 (Or.inr (by omega)), zFr_r σ⟩) (fun σ hR => ⟨σ, (hm σ hR).1 (Or.inr (by omega)), zFr_r σ, hR.1⟩)
  case pos =>
  by_cases q3 : 1 ≤ l ∧ l ≤ 9
  case neg =>
    refine zCq (-1) w (fun σ hR => ?_) (fun σ hR => ?_)
    · rw [(hc σ hR).2 q1 q2, ez_84_40, r2, decide_eq_false q3]
      exact ⟨σ, rfl, zFr_r σ⟩
    · rw [(hm σ hR).2 q1 q2, ez_160_25, m2, decide_eq_false q3]
      exact ⟨σ, rfl, zFr_r σ, hR.1⟩
  case pos =>
  by_cases q4 : 1 ≤ h ∧ h ≤ 999
  case neg =>
    refine zCq (-1) w (fun σ hR => ?_) (fun σ hR => ?_)
    · rw [(hc σ hR).2 q1 q2, ez_84_40, r2, decide_eq_true q3]
      simp only [zbs, zBi, cond_true, r3, decide_eq_false q4, cond_false]
      exact ⟨σ, rfl, zFr_r σ⟩
    · rw [(hm σ hR).2 q1 q2, ez_160_25, m2, decide_eq_true q3]
      simp only [zbs, zBi, cond_true, m3, decide_eq_false q4, cond_false]
      exact ⟨σ, rfl, zFr_r σ, hR.1⟩
  case pos =>
  obtain ⟨n, hn⟩ := zint b0
  have e9' : (iI (x.1 0) = 9) = (x.1 0 = 9) := iI_eq (b := 9) (by omega) (by decide)
  by_cases q5 : n = 9
  · refine zCq (-2) w (fun σ hR => ?_) (fun σ hR => ?_)
    · rw [(hc σ hR).2 q1 q2, ez_84_40, r2, decide_eq_true q3]
      simp only [zbs, zBi, cond_true, r3, decide_eq_true q4, hR.1.1.1, iI_lt9 (show zrn (x.1 0) by omega)]
      rw [if_neg (by omega)]
      exact ⟨σ, rfl, zFr_r σ⟩
    · rw [(hm σ hR).2 q1 q2, ez_160_25, m2, decide_eq_true q3]
      simp only [zbs, zBi, cond_true, m3, decide_eq_true q4, hR.1 0 (by decide), e9']
      rw [if_pos (by omega)]
      exact ⟨σ, rfl, zFr_r σ, hR.1⟩
  · by_cases q6 : 0 ≤ on ∧ aBrk x.1 on.toNat = true
    · refine zCq (-4) w (fun σ hR => ?_) (fun σ hR => ?_)
      · rw [(hc σ hR).2 q1 q2, ez_84_40, r2, decide_eq_true q3]
        simp only [zbs, zBi, cond_true, r3, decide_eq_true q4, hR.1.1.1, iI_lt9 (show zrn (x.1 0) by omega), decide_eq_false (show ¬ on = -1 by omega), zc14 (d := 61) hR.1.1 hR.1.2.1 wb ho, q6.2, Bool.not_true, Bool.and_false]
        rw [if_pos (by omega)]
        exact ⟨σ, rfl, zFr_r σ⟩
      · obtain ⟨m, rfl⟩ := zint q6.1
        have w2 := wb.2.2 m (by omega)
        have hbk : aBrk x.1 m = true := q6.2
        rw [(hm σ hR).2 q1 q2, ez_160_25, m2, decide_eq_true q3]
        simp only [zbs, zBi, cond_true, m3, decide_eq_true q4, hR.1 0 (by decide), e9', iI_lt0 ho, zm157 (d := 60) hR.1 (show m < 9 by omega) (show 0 ≤ x.1 (11 + 5 * m) ∧ x.1 (11 + 5 * m) ≤ 1 by omega), hbk]
        rw [if_neg (by omega), if_neg (by omega)]
        exact ⟨σ, rfl, zFr_r σ, hR.1⟩
    · have hon : -1 ≤ on ∧ on < n := by omega
      have wT := wA_nw (k := k) (on := on) (l := l) (h := h) w.1 hn (by omega) q1 hon q3 q4
      have e : ∀ i, i ≠ 0 → (i < 7 ∨ 52 ≤ i) → aNw x.1 n k on l h i = x.1 i := fun i a b => aNw_n (by omega) a
      obtain ⟨a1, a2, a3, a4, a5⟩ := aNw_at (S := x.1) (n := n) (k := k) (on := on) (l := l) (h := h)
      have wk : wK (aNw x.1 n k on l h) := fun b hb h1 h2 => by
        rw [aNw_0] at hb
        by_cases qb : b = n
        · subst qb
          exfalso
          rw [a2] at h1 h2
          obtain ⟨m, rfl⟩ := zint (show 0 ≤ on by omega)
          rw [show ((m : Int) + 1 - 1).toNat = m by omega, aNw_n (by omega) (by omega)] at h2
          exact q6 ⟨by omega, decide_eq_true h2⟩
        · have w2 := w.1.1.2.2 b (by omega)
          rw [aNw_n (i := 8 + 5 * b) (by omega) (by omega)] at h1 h2
          rw [aNw_n (by omega) (by omega)] at h2
          rw [aNw_n (by omega) (by omega)]
          exact w.2.2.2.2.2.2.1 b (by omega) h1 h2
      refine zCs (aNw x.1 n k on l h) (iI n) w wT wk (fun σ hR => ?_) (fun σ hR => ?_)
      · obtain ⟨v, g1, g2⟩ := zc12 (d := 61) (k := k) (l := l) (h := h) hR.1.1 wb hn (by omega) hon
        obtain ⟨h1, h2, h3, h4, h5, h6, h7⟩ := hR.1
        have hans : zrun (zev 63) zT_84 40 [some (.inr (.inr (0, 30))), some (.inl (iI k)), some (.inl (iI on)), some (.inl (iI l)), some (.inl (iI h)), some (.inl (zB (decide (on = -1))))] [] σ = (Option.bind (zev 63 12 [.inr (.inr (0, 1)), .inl (iI k), .inl (iI (cE on)), .inl (iI l), .inl (iI h)] σ) fun x => some (x.1, 0, x.2.2)) := by
          rw [ez_84_40, r2, decide_eq_true q3]
          simp only [zbs, zBi, cond_true, r3, decide_eq_true q4, h1.1, iI_lt9 (show zrn (x.1 0) by omega)]
          rw [if_pos (by omega)]
          by_cases q : on = -1
          · rw [decide_eq_true q, q]
            rfl
          · have hbk : aBrk x.1 on.toNat = false := by
              cases hx : aBrk x.1 on.toNat
              · rfl
              · exact absurd ⟨by omega, hx⟩ q6
            rw [decide_eq_false q, cond_false, zc14 (d := 61) h1 h2 wb ho, hbk, decide_eq_true (by omega)]
            simp only [zbs, zBi, Bool.not_false, Bool.true_and, cond_true, cond_false]
            rw [show cE on = on from if_neg (by omega)]
        rw [(hc σ hR).2 q1 q2, hans, g1]
        have f : ∀ k', k' = 0 ∨ 7 ≤ k' → (zwI (zwI (zwI (zwI (zwI (zwI σ 0 2 n (iI k)) 0 3 n (iI (cE on))) 0 4 n (iI l)) 0 5 n (iI h)) 0 6 n v) 0 1 0 (iI ((n + 1 : Nat) : Int))).1 0 k' = σ.1 0 k' := fun k' hk' => by rw [zfn (by omega), zfn (by omega), zfn (by omega), zfn (by omega), zfn (by omega), zfn (by omega)]
        have f1 : ∀ i, i ≠ 0 → (zwI (zwI (zwI (zwI (zwI (zwI σ 0 2 n (iI k)) 0 3 n (iI (cE on))) 0 4 n (iI l)) 0 5 n (iI h)) 0 6 n v) 0 1 0 (iI ((n + 1 : Nat) : Int))).1 0 1 i = σ.1 0 1 i := fun i hi => by rw [zfe (by omega), zfe (by omega), zfe (by omega), zfe (by omega), zfe (by omega), zfe (by omega)]
        refine ⟨_, rfl, zFr_tt (zFr_tt (zFr_tt (zFr_tt (zFr_tt (zFr_w (by omega)) (zFr_w (by omega))) (zFr_w (by omega))) (zFr_w (by omega))) (zFr_w (by omega))) (zFr_w (by omega)), ⟨by rw [zfs, aNw_0], fun b hb => ?_⟩, fun b hb => ?_, ⟨?_, ?_⟩, ?_, ?_, ?_, ?_⟩
        · rw [aNw_0] at hb
          by_cases qb : b = n
          · subst qb
            have hpar : aPar (aNw x.1 b k on l h) b = on := by unfold aPar; rw [a2]; omega
            rw [a1, a3, a4, hpar, zfe (by omega), zfe (by omega), zfe (by omega), zfe (by omega), zfe (by omega), zfs, zfe (by omega), zfe (by omega), zfe (by omega), zfe (by omega), zfs, zfe (by omega), zfe (by omega), zfe (by omega), zfs, zfe (by omega), zfe (by omega), zfs]
            refine ⟨rfl, rfl, rfl, rfl, fun u hu => ?_⟩
            rw [zfe (by omega), zfs, g2 u hu, aAb_u wT.1 (by rw [aNw_0]; omega), hpar]
            congr 1
            by_cases qo : on < 0
            · rw [aAbI_n qo, aAbI_n qo]
            · obtain ⟨m, rfl⟩ := zint (show 0 ≤ on by omega)
              rw [aAbI_p, aAbI_p, aNw_ab wb hn (by omega)]
          · have hb' := h1.2 b (by omega)
            have hpar : aPar (aNw x.1 n k on l h) b = aPar x.1 b := by unfold aPar; rw [aNw_n (by omega) (by omega)]
            have hne : ∀ {g' k' : Nat}, ¬ (g' = 0 ∧ k' = 1 ∧ b = 0) → (zwI (zwI (zwI (zwI (zwI (zwI σ 0 2 n (iI k)) 0 3 n (iI (cE on))) 0 4 n (iI l)) 0 5 n (iI h)) 0 6 n v) 0 1 0 (iI ((n + 1 : Nat) : Int))).1 g' k' b = σ.1 g' k' b := fun hq => by rw [zfe hq, zfe (by omega), zfe (by omega), zfe (by omega), zfe (by omega), zfe (by omega)]
            rw [aNw_n (by omega) (by omega), aNw_n (by omega) (by omega), aNw_n (by omega) (by omega), hpar, hne (by omega), hne (by omega), hne (by omega), hne (by omega), hne (by omega)]
            refine ⟨hb'.1, hb'.2.1, hb'.2.2.1, hb'.2.2.2.1, fun u hu => ?_⟩
            rw [aNw_ab wb hn (by omega)]
            exact hb'.2.2.2.2 u hu
        · rw [f1 6 (by decide), h2 b hb]
          unfold aBrk
          rw [aNw_0]
          by_cases qb : b = n
          · subst qb
            rw [a5, decide_eq_false (show ¬ b < (x.1 0).toNat by omega), decide_eq_false (show ¬ (0 : Int) = 1 by omega), Bool.and_false, Bool.false_and]
          · rw [aNw_n (by omega) (by omega), zdec (show b < (x.1 0).toNat ↔ b < ((n + 1 : Nat) : Int).toNat by omega)]
        · rw [f1 7 (by decide), e 4 (by omega) (by omega)]; exact h3.1
        · rw [f1 8 (by decide), e 5 (by omega) (by omega)]; exact h3.2
        · exact cP_f (cP_c h4 (e 2 (by omega) (by omega)) (fun i _ _ => e i (by omega) (by omega)) wp) fun k _ _ => f k (by omega)
        · exact cR_f (cR_c h5 (e 3 (by omega) (by omega)) (fun i _ _ => e i (by omega) (by omega)) wr) (by rw [f 19 (by omega)]) fun k _ _ => f k (by omega)
        · exact cU_f (cU_c h6 (e 1 (by omega) (by omega)) fun i _ => e i (by omega) (by omega)) fun k _ _ => f k (by omega)
        · unfold cZ at h7 ⊢
          rw [f 0 (by omega), e 6 (by omega) (by omega)]; exact h7
      · have i5 : ∀ (w' : Nat) {τ : zM}, zev 63 155 [.inl (iI n), .inl (iI w')] τ = some (iI ((7 + 5 * n + w' : Nat) : Int), 0, τ) := fun w' {τ} => zm155 (d := 62) (b := n) (w := w')
        have i0 : ∀ {τ : zM}, zev 63 155 [.inl (iI n), .inl 0] τ = some (iI ((7 + 5 * n : Nat) : Int), 0, τ) := i5 0
        have i1 : ∀ {τ : zM}, zev 63 155 [.inl (iI n), .inl 1] τ = some (iI ((8 + 5 * n : Nat) : Int), 0, τ) := fun {τ} => by
          have := i5 1 (τ := τ); rw [show 7 + 5 * n + 1 = 8 + 5 * n by omega] at this; exact this
        have i2 : ∀ {τ : zM}, zev 63 155 [.inl (iI n), .inl 2] τ = some (iI ((9 + 5 * n : Nat) : Int), 0, τ) := fun {τ} => by
          have := i5 2 (τ := τ); rw [show 7 + 5 * n + 2 = 9 + 5 * n by omega] at this; exact this
        have i3 : ∀ {τ : zM}, zev 63 155 [.inl (iI n), .inl 3] τ = some (iI ((10 + 5 * n : Nat) : Int), 0, τ) := fun {τ} => by
          have := i5 3 (τ := τ); rw [show 7 + 5 * n + 3 = 10 + 5 * n by omega] at this; exact this
        have i4 : ∀ {τ : zM}, zev 63 155 [.inl (iI n), .inl 4] τ = some (iI ((11 + 5 * n : Nat) : Int), 0, τ) := fun {τ} => by
          have := i5 4 (τ := τ); rw [show 7 + 5 * n + 4 = 11 + 5 * n by omega] at this; exact this
        have h0 : σ.1 0 61 0 = iI n := by rw [hR.1 0 (by decide), hn]
        have h5 : ∀ v1 v2 v3 v4 v5 : Int32, (zwI (zwI (zwI (zwI (zwI σ 0 61 (7 + 5 * n) v1) 0 61 (8 + 5 * n) v2) 0 61 (9 + 5 * n) v3) 0 61 (10 + 5 * n) v4) 0 61 (11 + 5 * n) v5).1 0 61 0 = iI n := fun v1 v2 v3 v4 v5 => by rw [zfe (by omega), zfe (by omega), zfe (by omega), zfe (by omega), zfe (by omega), h0]
        have t73 : ∀ d5 : Option zV, zrun (zev 63) zT_160 73 [some (.inr (.inr (0, 60))), some (.inl (iI k)), some (.inl (iI on)), some (.inl (iI l)), some (.inl (iI h)), d5] [] σ = some (iI n, 0, zwI (zwI (zwI (zwI (zwI (zwI σ 0 61 (7 + 5 * n) (iI k)) 0 61 (8 + 5 * n) (iI (on + 1))) 0 61 (9 + 5 * n) (iI l)) 0 61 (10 + 5 * n) (iI h)) 0 61 (11 + 5 * n) 0) 0 61 0 (iI ((n + 1 : Nat) : Int))) := by
          intro d5
          rw [ez_160_73]
          simp only [h0, i0, i1, i2, i3, i4, zbs, zgd_t (iI_ink (z := ((7 + 5 * n : Nat) : Int)) (k := 7 + 5 * n) rfl (show 7 + 5 * n < 320 by omega) (by decide)), iI_Nn (show 7 + 5 * n ≤ 2147483647 by omega), zgd_t (iI_ink (z := ((8 + 5 * n : Nat) : Int)) (k := 8 + 5 * n) rfl (show 8 + 5 * n < 320 by omega) (by decide)), iI_Nn (show 8 + 5 * n ≤ 2147483647 by omega), zgd_t (iI_ink (z := ((9 + 5 * n : Nat) : Int)) (k := 9 + 5 * n) rfl (show 9 + 5 * n < 320 by omega) (by decide)), iI_Nn (show 9 + 5 * n ≤ 2147483647 by omega), zgd_t (iI_ink (z := ((10 + 5 * n : Nat) : Int)) (k := 10 + 5 * n) rfl (show 10 + 5 * n < 320 by omega) (by decide)), iI_Nn (show 10 + 5 * n ≤ 2147483647 by omega), zgd_t (iI_ink (z := ((11 + 5 * n : Nat) : Int)) (k := 11 + 5 * n) rfl (show 11 + 5 * n < 320 by omega) (by decide)), iI_Nn (show 11 + 5 * n ≤ 2147483647 by omega), h5, hki1, iI_a1]
          rfl
        have hS := mS_up (i := 0) (v := ((n + 1 : Nat) : Int)) (mS_up (i := 11 + 5 * n) (v := 0) (mS_up (i := 10 + 5 * n) (v := h) (mS_up (i := 9 + 5 * n) (v := l) (mS_up (i := 8 + 5 * n) (v := on + 1) (mS_up (i := 7 + 5 * n) (v := k) hR.1)))))
        rw [(hm σ hR).2 q1 q2, ez_160_25, m2, decide_eq_true q3]
        simp only [zbs, zBi, cond_true, m3, decide_eq_true q4, h0, iI_eq (b := 9) (show zrn (n : Int) by omega) (show zrn 9 by decide), iI_lt0 ho]
        refine ⟨_, ?_, zFr_tt (zFr_tt (zFr_tt (zFr_tt (zFr_tt (zFr_w (by omega)) (zFr_w (by omega))) (zFr_w (by omega))) (zFr_w (by omega))) (zFr_w (by omega))) (zFr_w (by omega)), hS⟩
        have e9 : (iI (n : Int) = 9) = ((n : Int) = 9) := iI_eq (b := 9) (by omega) (by decide)
        simp only [e9]
        rw [if_neg (by omega)]
        by_cases qo : on < 0
        · rw [if_pos qo, t73]; rfl
        · obtain ⟨m, rfl⟩ := zint (show 0 ≤ on by omega)
          have w2 := wb.2.2 m (by omega)
          have hbk : aBrk x.1 m = false := by
            cases hx : aBrk x.1 m
            · rfl
            · exact absurd ⟨by omega, hx⟩ q6
          rw [if_neg qo, zm157 (d := 60) hR.1 (show m < 9 by omega) (show 0 ≤ x.1 (11 + 5 * m) ∧ x.1 (11 + 5 * m) ≤ 1 by omega), hbk]
          simp only [zbs, zBi, cond_false]
          rw [t73]; rfl
