/-! the law's loop: both sides, call by call -/
theorem yA0 {B : Nat → Bool} : zAl B [] := fun _ h => by cases h
theorem yAi {B : Nat → Bool} {x : Int32} {r : List zV} (h : zAl B r) : zAl B (.inl x :: r) := zAc trivial h
theorem yAj {B : Nat → Bool} {x : Int64} {r : List zV} (h : zAl B r) : zAl B (.inr (.inl x) :: r) := zAc trivial h
theorem yAr {B : Nat → Bool} {g k : Nat} {r : List zV} (hk : B k = true) (h : zAl B r) : zAl B (.inr (.inr (g, k)) :: r) := zAc hk h
theorem zBc_n {k : Nat} (h : 60 ≤ k) (h2 : k < 95) : zBc k = false := by
  unfold zBc
  have a : Nat.blt k 60 = false := by cases q : Nat.blt k 60 with | false => rfl | true => have := Nat.blt_eq.mp q; omega
  have b : Nat.ble 95 k = false := by cases q : Nat.ble 95 k with | false => rfl | true => have := Nat.ble_eq.mp q; omega
  rw [a, b]; rfl
theorem zBm_n {k : Nat} (h : k < 60) : zBm k = false := by
  unfold zBm
  have a : Nat.ble 60 k = false := by cases q : Nat.ble 60 k with | false => rfl | true => have := Nat.ble_eq.mp q; omega
  have b : Nat.ble 95 k = false := by cases q : Nat.ble 95 k with | false => rfl | true => have := Nat.ble_eq.mp q; omega
  rw [a, b]; rfl
/-- a call of the other side keeps it -/
theorem RM_kk {x : zXx} {σ τ : zM} (h : RM x σ) (s : zsm zBc σ τ) : RM x τ := by
  obtain ⟨h1, h2, h3, h4, h5, h6⟩ := h
  have e : ∀ k, 60 ≤ k → k < 95 → τ.1 0 k = σ.1 0 k := fun k a b => funext fun i => (s 0 k i (zBc_n a b)).1
  exact ⟨mS_f h1 (e 61 (by decide) (by decide)), mKe_f h2 (by rw [e 60 (by decide) (by decide)]) (e 62 (by decide) (by decide)), mTp_f h3 (by rw [e 60 (by decide) (by decide)]) (e 72 (by decide) (by decide)), mRo_f h4 (by rw [e 60 (by decide) (by decide)]) (e 71 (by decide) (by decide)), mHo_f h5 (fun k a b => e k (by omega) (by omega)), mAc_f h6 (by rw [e 60 (by decide) (by decide)]) (e 79 (by decide) (by decide))⟩
theorem RC_kk {x : zXx} {σ τ : zM} (h : RC x σ) (s : zsm zBm σ τ) : RC x τ := by
  obtain ⟨h1, h2, h3, h4, h5, h6⟩ := h
  have e : ∀ g k, k < 60 → τ.1 g k = σ.1 g k := fun g k a => funext fun i => (s g k i (zBm_n a)).1
  refine ⟨cA_c h1 (fun k a _ _ _ => e 0 k (by omega)) (by rw [e 0 19 (by decide)]), cKe_f h2 (by rw [e 0 30 (by decide)]) (fun k a => e 2 k (by omega)), cTp_f h3 (by rw [e 0 31 (by decide)]) (e 0 32 (by decide)), cRo_f h4 (by rw [e 0 38 (by decide)]) (fun k => e k 40 (by decide)), fun j hj => ?_, cAc_f h6 (by rw [e 0 49 (by decide)]) (e 0 50 (by decide))⟩
  have e2 : ∀ i, τ.2 j 45 i = σ.2 j 45 i := fun i => (s j 45 i (zBm_n (by decide))).2
  rw [e 0 42 (by decide), e 0 43 (by decide), e 0 46 (by decide), e 0 47 (by decide), e 0 48 (by decide)]
  obtain ⟨a1, a2, a3, a4⟩ := h5 j hj
  exact ⟨a1, a2, fun q i hi => (e2 i).trans (a3 q i hi), a4⟩
def zJ (L : Nat) (xs : Nat → Int32) (σ : zM) : Prop := zscr L xs σ ∧ ∃ x, WX x ∧ RC x σ ∧ RM x σ
theorem zcl0 {J J2 : Nat} {as : List zV} {L : Nat} {xs : Nat → Int32} {σ : zM} (hc : ∀ x, WX x → zCall0 J J2 as x) (a1 : zAl zBc as) (a2 : zAl zBm as) (h : zJ L xs σ) : ∃ v w1 σ1, zev 64 J (.inr (.inr (0, 30)) :: as) σ = some (v, w1, σ1) ∧ zscr L xs σ1 ∧ ∃ v2 w2 σ2, zev 64 J2 (.inr (.inr (0, 60)) :: as) σ1 = some (v2, w2, σ2) ∧ zJ L xs σ2 := by
  obtain ⟨s, x, w, h1, h2⟩ := h
  obtain ⟨x', w', c1, c2⟩ := hc x w
  obtain ⟨v, w1, σ1, e1, r1⟩ := c1 σ h1
  have m1 := RM_kk h2 (zev_sm zBc_cl e1 (yAr (by decide) a1))
  obtain ⟨v2, w2, σ2, e2, r2⟩ := c2 σ1 m1
  have s1 := zev_sc (zscr_sc L xs) 64 _ _ _ _ e1 s
  exact ⟨v, w1, σ1, e1, s1, v2, w2, σ2, e2, zev_sc (zscr_sc L xs) 64 _ _ _ _ e2 s1, x', w', RC_kk r1 (zev_sm zBm_cl e2 (yAr (by decide) a2)), r2⟩
theorem zcl1 {J J2 : Nat} {as : List zV} {L : Nat} {xs : Nat → Int32} {σ : zM} (hc : ∀ x, WX x → zCall J J2 as x) (a1 : zAl zBc as) (a2 : zAl zBm as) (h : zJ L xs σ) : ∃ v w1 σ1, zev 64 J (.inr (.inr (0, 30)) :: as) σ = some (v, w1, σ1) ∧ zscr L xs σ1 ∧ ∃ w2 σ2, zev 64 J2 (.inr (.inr (0, 60)) :: as) σ1 = some (v, w2, σ2) ∧ zJ L xs σ2 := by
  obtain ⟨s, x, w, h1, h2⟩ := h
  obtain ⟨x', v, w', c1, c2⟩ := hc x w
  obtain ⟨w1, σ1, e1, r1⟩ := c1 σ h1
  have m1 := RM_kk h2 (zev_sm zBc_cl e1 (yAr (by decide) a1))
  obtain ⟨w2, σ2, e2, r2⟩ := c2 σ1 m1
  have s1 := zev_sc (zscr_sc L xs) 64 _ _ _ _ e1 s
  exact ⟨v, w1, σ1, e1, s1, w2, σ2, e2, zev_sc (zscr_sc L xs) 64 _ _ _ _ e2 s1, x', w', RC_kk r1 (zev_sm zBm_cl e2 (yAr (by decide) a2)), r2⟩
/-! the beginning -/
theorem bt_0 (i : Nat) : bt 0 i = false := by
  unfold bt
  show (0#32).getLsbD i = false
  exact BitVec.getLsbD_zero
def zx0 : zXx := (fun i => if i = 6 then 1 else 0, fun _ => 0, false, (0, fun _ => 0), (0, fun _ _ => 0), (fun _ => -1, fun _ => 0, fun _ _ => 0, fun _ => 0, fun _ => 0, fun _ => 0), (0, fun _ => 0))
theorem zN0 {P : Nat → Prop} (k : Nat) (hk : k < (0 : Int).toNat) : P k := absurd hk (Nat.not_lt_zero k)
theorem WX_0 : WX zx0 := by
  have a : wA zx0.1 := ⟨⟨by decide, by decide, fun b hb => zN0 (P := fun b => 1 ≤ zx0.1 (7 + 5 * b) ∧ zx0.1 (7 + 5 * b) ≤ 5 ∧ 0 ≤ zx0.1 (8 + 5 * b) ∧ zx0.1 (8 + 5 * b) ≤ b ∧ 1 ≤ zx0.1 (9 + 5 * b) ∧ zx0.1 (9 + 5 * b) ≤ 9 ∧ 1 ≤ zx0.1 (10 + 5 * b) ∧ zx0.1 (10 + 5 * b) ≤ 999 ∧ 0 ≤ zx0.1 (11 + 5 * b) ∧ zx0.1 (11 + 5 * b) ≤ 1) b hb⟩, ⟨by decide, by decide, by decide, by decide⟩, ⟨by decide, by decide, fun b hb => absurd hb (Nat.not_lt_zero b)⟩, ⟨by decide, by decide, fun b hb => absurd hb (Nat.not_lt_zero b)⟩, ⟨by decide, by decide, fun b hb => absurd hb (Nat.not_lt_zero b)⟩, by decide⟩
  refine ⟨a, fun q => absurd q (show ¬ (false = true) by decide), ⟨Nat.zero_le _, fun i hi => absurd hi (Nat.not_lt_zero i)⟩, ⟨Nat.zero_le _, fun i _ hi => absurd hi (Nat.not_lt_zero i)⟩, fun j hj => ?_, ⟨Nat.zero_le _, fun i hi => absurd hi (Nat.not_lt_zero i)⟩, fun b hb => absurd hb (Nat.not_lt_zero b), fun q => absurd q (show ¬ (false = true) by decide)⟩
  show (-1 : Int) ≤ -1 ∧ (-1 : Int) ≤ 4 ∧ (0 : Int) ≤ 0 ∧ (0 : Int) ≤ 40 ∧ (∀ i : Nat, i < 40 → zrn 0) ∧ (0 : Int) ≤ 0 ∧ (0 : Int) ≤ 2 ∧ ((0 : Int) ≠ 0 → (0 : Int) ≤ 0 ∧ (0 : Int) ≤ 40) ∧ (-1 : Int) ≤ 0 ∧ (0 : Int) ≤ 4
  exact ⟨by decide, by decide, by decide, by decide, fun _ _ => by decide, by decide, by decide, fun q => absurd rfl q, by decide, by decide⟩
theorem nn1 {P : Prop} (q : (0 : Int) ≤ -1) : P := absurd q (by decide)
theorem RC_0 (L : Nat) (xs : Nat → Int32) : RC zx0 (zS0 L xs) := by
  refine ⟨⟨⟨rfl, fun b hb => absurd hb (Nat.not_lt_zero b)⟩, fun b hb => ?_, ⟨rfl, rfl⟩, ⟨rfl, fun b hb => absurd hb (Nat.not_lt_zero b)⟩, ⟨rfl, fun b hb => absurd hb (Nat.not_lt_zero b)⟩, ⟨rfl, fun b hb => absurd hb (Nat.not_lt_zero b)⟩, rfl⟩, ⟨rfl, fun q => absurd q (show ¬ (false = true) by decide)⟩, ⟨rfl, fun i hi => absurd hi (Nat.not_lt_zero i)⟩, ⟨rfl, fun i _ hi => absurd hi (Nat.not_lt_zero i)⟩, fun j hj => ?_, ⟨rfl, fun i hi => absurd hi (Nat.not_lt_zero i)⟩⟩
  · have e : (decide (b < (zx0.1 0).toNat) && aBrk zx0.1 b) = false := by
      rw [decide_eq_false (show ¬ b < (zx0.1 0).toNat from Nat.not_lt_zero b)]; rfl
    rw [e]
    exact bt_0 b
  · exact ⟨zlitm1, fun q => nn1 q, fun q => nn1 q, rfl, fun q => absurd rfl q, fun q => absurd q (show ¬ (0 : Int) = 2 by decide)⟩
theorem RM_0 (L : Nat) (xs : Nat → Int32) : RM zx0 (zS0 L xs) := by
  refine ⟨fun i hi => ?_, ⟨rfl, fun q => absurd q (show ¬ (false = true) by decide)⟩, ⟨rfl, fun i hi => absurd hi (Nat.not_lt_zero i)⟩, ⟨rfl, fun i _ hi => absurd hi (Nat.not_lt_zero i)⟩, fun j hj => ?_, ⟨rfl, fun i hi => absurd hi (Nat.not_lt_zero i)⟩⟩
  · show z0c 61 i = iI (if i = 6 then 1 else 0)
    unfold z0c
    by_cases q : i = 6
    · rw [if_neg (by omega), if_neg (by omega), if_pos ⟨rfl, q⟩, if_pos q]; rfl
    · rw [if_neg (by omega), if_neg (by omega), if_neg (by omega), if_neg (by omega), if_neg q]; rfl
  · exact ⟨zlitm1, fun q => nn1 q, fun q => nn1 q, ⟨0, rfl, by decide, by decide⟩, rfl, fun q => absurd rfl q, fun q => absurd q (show ¬ (0 : Int) = 2 by decide)⟩
theorem zJ_0 (L : Nat) (xs : Nat → Int32) : zJ L xs (zS0 L xs) := ⟨⟨rfl, fun j _ => rfl⟩, zx0, WX_0, RC_0 L xs, RM_0 L xs⟩
/-! the script -/
theorem yin {L : Nat} {xs : Nat → Int32} {σ : zM} {z : Int} (h : zscr L xs σ) (hL : L ≤ 2560) (h0 : 0 ≤ z) (h1 : z < L) : zin (iI z) (zslen σ) = true := by
  unfold zin zslen
  rw [h.1, nI_iI, iI_Nn (by omega), iI_N h0 (by omega), Bool.and_eq_true]
  refine ⟨decide_eq_true ?_, Nat.blt_eq.mpr (by omega)⟩
  rw [Int32.le_iff_toInt_le, t_iI (by omega)]
  exact h0
theorem ygd {L : Nat} {xs : Nat → Int32} {σ : zM} {i : Nat} {k : Int} (h : zscr L xs σ) (hL : L ≤ 2560) (hi : i + 5 ≤ L) (hk : 0 ≤ k ∧ k ≤ 4) {X : zR} : zgd (zin (iI i + iI k) (zslen σ)) X = X := by
  rw [iI_add]
  exact zgd_t (yin h hL (by omega) (by omega))
theorem yrd {L : Nat} {xs : Nat → Int32} {σ : zM} {i k : Nat} (h : zscr L xs σ) (hL : L ≤ 2560) (hi : i + 5 ≤ L) (hk : k ≤ 4) : σ.1 0 90 (Int32.toNatClampNeg (iI i + iI (k : Int))) = xs (i + k) := by
  rw [iI_add, iI_Nk (n := i + k) (by omega) (by omega)]
  exact h.2 (i + k) (by omega)
abbrev zl5 (i : Nat) : zL := [some (.inr (.inr (0, 90))), some (.inr (.inr (0, 30))), some (.inr (.inr (0, 60))), some (.inl (iI i))]
