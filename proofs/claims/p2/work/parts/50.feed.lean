theorem zby_bv (a : BitVec 64) (s : Nat) (hs : s ≤ 56) : BitVec.setWidth 32 (a >>> s) &&& 255#32 = BitVec.setWidth 32 (a.sshiftRight s &&& 255#64) := by
  apply BitVec.eq_of_getLsbD_eq
  intro k hk
  have n255 : ∀ j, 8 ≤ j → Nat.testBit 255 j = false := fun j hj => Nat.testBit_lt_two_pow (Nat.lt_of_lt_of_le (by decide : 255 < 2 ^ 8) (Nat.pow_le_pow_right (by decide) hj))
  simp only [BitVec.getLsbD_and, BitVec.getLsbD_setWidth, BitVec.getLsbD_ushiftRight, BitVec.getLsbD_sshiftRight, BitVec.getLsbD_ofNat]
  by_cases q : k < 8
  · have h1 : s + k < 64 := by omega
    have h2 : ¬ 64 ≤ k := by omega
    have h3 : k < 64 := by omega
    simp [hk, h1, h2, h3]
  · simp [n255 k (by omega)]
def zBy (e : Int64) (k : Nat) : Int := Int32.toInt (Int64.toInt32 ((e >>> (Int32.toInt64 (8 * iI k) &&& 63)) &&& 255))
theorem zBy_r (e : Int64) (k : Nat) : 0 ≤ zBy e k ∧ zBy e k ≤ 255 := by
  have h : (Int64.toInt32 ((e >>> (Int32.toInt64 (8 * iI k) &&& 63)) &&& 255)).toBitVec.toNat ≤ 255 := by
    show (BitVec.signExtend 32 ((e >>> (Int32.toInt64 (8 * iI k) &&& 63)).toBitVec &&& 255#64)).toNat ≤ 255
    rw [BitVec.signExtend_eq_setWidth_of_le _ (by decide), BitVec.toNat_setWidth, BitVec.toNat_and]
    have := Nat.and_le_right (n := (e >>> (Int32.toInt64 (8 * iI k) &&& 63)).toBitVec.toNat) (m := (255#64).toNat)
    have e255 : (255#64).toNat = 255 := by decide
    omega
  unfold zBy
  show 0 ≤ BitVec.toInt _ ∧ BitVec.toInt _ ≤ 255
  rw [BitVec.toInt_eq_toNat_of_lt (by omega)]
  omega
theorem zBy_m (e : Int64) (k : Nat) : Int64.toInt32 ((e >>> (Int32.toInt64 (8 * iI k) &&& 63)) &&& 255) = iI (zBy e k) := (Int32.ofInt_toInt _).symm
theorem zBy_c (e : Int64) {k : Nat} (hk : k < 8) : (Int64.toInt32 ((Int64.toUInt64 e >>> ((Int32.toInt64 (8 * iI k)).toUInt64 &&& Int64.toUInt64 63)).toInt64)) &&& 255 = iI (zBy e k) := by
  rw [← zBy_m]
  apply Int32.toBitVec_inj.mp
  have hs : (8 * k : Nat) ≤ 56 := by omega
  have e1 : ∀ k : Nat, k < 8 → ((Int32.toInt64 (8 * iI k)).toUInt64 &&& Int64.toUInt64 63).toBitVec % 64 = BitVec.ofNat 64 (8 * k) := by decide
  have e2 : ∀ k : Nat, k < 8 → (Int32.toInt64 (8 * iI k) &&& 63).toBitVec.smod 64 = BitVec.ofNat 64 (8 * k) := by decide
  show BitVec.signExtend 32 (e.toBitVec >>> (((Int32.toInt64 (8 * iI k)).toUInt64 &&& Int64.toUInt64 63).toBitVec % 64)) &&& 255#32 = BitVec.signExtend 32 (e.toBitVec.sshiftRight' ((Int32.toInt64 (8 * iI k) &&& 63).toBitVec.smod 64) &&& 255#64)
  rw [BitVec.signExtend_eq_setWidth_of_le _ (by decide), BitVec.signExtend_eq_setWidth_of_le _ (by decide), e1 k hk, e2 k hk]
  have e3 : (BitVec.ofNat 64 (8 * k)).toNat = 8 * k := by rw [BitVec.toNat_ofNat]; omega
  have e4 : e.toBitVec >>> BitVec.ofNat 64 (8 * k) = e.toBitVec >>> (8 * k) := by
    show e.toBitVec >>> (BitVec.ofNat 64 (8 * k)).toNat = _
    rw [e3]
  rw [e4]
  show _ = BitVec.setWidth 32 (e.toBitVec.sshiftRight (BitVec.ofNat 64 (8 * k)).toNat &&& 255#64)
  rw [e3]
  exact zby_bv _ _ hs
def aFe (e : Int64) : Nat → Nat → zXt → zXt
  | 0, _, t => t
  | n + 1, k, t => aFe e n (k + 1) (t.1 + 1, fun i => if i = t.1 then zBy e k else t.2 i)
theorem aFe_l {e : Int64} : ∀ (n k : Nat) (t : zXt), (aFe e n k t).1 = t.1 + n
  | 0, _, _ => rfl
  | n + 1, k, t => by
    show (aFe e n (k + 1) (t.1 + 1, fun i => if i = t.1 then zBy e k else t.2 i)).1 = _
    rw [aFe_l n (k + 1)]
    show t.1 + 1 + n = _
    omega
theorem aFe_w {e : Int64} : ∀ (n k : Nat) (t : zXt), (∀ i, i < t.1 → 0 ≤ t.2 i ∧ t.2 i ≤ 255) → ∀ i, i < (aFe e n k t).1 → 0 ≤ (aFe e n k t).2 i ∧ (aFe e n k t).2 i ≤ 255
  | 0, _, _, h => h
  | n + 1, k, t, h => aFe_w n (k + 1) (t.1 + 1, fun i => if i = t.1 then zBy e k else t.2 i) (fun i hi => by
      have hi : i < t.1 + 1 := hi
      show 0 ≤ (if i = t.1 then zBy e k else t.2 i) ∧ (if i = t.1 then zBy e k else t.2 i) ≤ 255
      split
      · exact zBy_r e k
      · exact h i (by omega))
def xst (x : zXx) (t : zXt) : zXx := (x.1, x.2.1, x.2.2.1, t, x.2.2.2.2)
theorem RC_t {x : zXx} {t : zXt} {σ τ : zM} (h : RC x σ) (f : zFr (fun g k _ => g = 0 ∧ (k = 31 ∨ k = 32)) σ τ) (hh : cTp t τ) : RC (xst x t) τ := by
  obtain ⟨h1, h2, h3, h4, h5, h6⟩ := h
  have e : ∀ g k, ¬ (g = 0 ∧ (k = 31 ∨ k = 32)) → τ.1 g k = σ.1 g k := fun g k hk => zFr_f f (fun i => hk)
  exact ⟨cA_c h1 (fun k a b c d => e 0 k (by omega)) (by rw [e 0 19 (by omega)]), cKe_f (x := x) h2 (by rw [e 0 30 (by omega)]) (fun k hk => e 2 k (by omega)), hh, cRo_f h4 (by rw [e 0 38 (by omega)]) (fun k => e k 40 (by omega)), cHo_f h5 (fun k a b => e 0 k (by omega)) f.2, cAc_f h6 (by rw [e 0 49 (by omega)]) (e 0 50 (by omega))⟩
theorem RM_t {x : zXx} {t : zXt} {σ τ : zM} (h : RM x σ) (f : zFr (fun g k i => g = 0 ∧ ((k = 60 ∧ i = 18) ∨ k = 72)) σ τ) (hh : mTp t τ) : RM (xst x t) τ := by
  obtain ⟨h1, h2, h3, h4, h5, h6⟩ := h
  have e : ∀ k, k ≠ 60 → k ≠ 72 → τ.1 0 k = σ.1 0 k := fun k a b => zFr_f f (fun i => by omega)
  exact ⟨mS_f h1 (e 61 (by decide) (by decide)), mKe_f (x := x) h2 (f.1 _ _ _ (by omega)) (e 62 (by decide) (by decide)), hh, mRo_f h4 (f.1 _ _ _ (by omega)) (e 71 (by decide) (by decide)), mHo_f h5 (fun k a b => e k (by omega) (by omega)), mAc_f h6 (f.1 _ _ _ (by omega)) (e 79 (by decide) (by decide))⟩
theorem zx_89 {x : zXx} (w : WX x) (e : Int64) (n : Int) (hn : zrn n) : zCall 89 231 [.inr (.inl e), .inl (iI n)] x := by
  have wt := w.2.2.1
  have hl := wt.1
  have c1 : ∀ {σ : zM}, zev 63 141 [.inl (iI n), .inl 1, .inl 8] σ = some (zB (decide (1 ≤ n ∧ n ≤ 8)), 0, σ) := zc141 (l := 1) (h := 8) hn (by decide) (by decide)
  have m1 : ∀ {σ : zM}, zev 63 149 [.inr (.inl (Int32.toInt64 (iI n))), .inr (.inl 1), .inr (.inl 8)] σ = some (zB (decide (1 ≤ n ∧ n ≤ 8)), 0, σ) := zm149k (l := 1) (h := 8) hn (by decide) (by decide)
  by_cases q1 : 1 ≤ n ∧ n ≤ 8
  case neg =>
    refine zCq (-1) w (fun σ h => ?_) (fun σ h => ?_)
    · rw [ez_89]
      simp only [c1, zbs, zBi, decide_eq_false q1, cond_false]
      exact ⟨σ, rfl, zFr_r σ⟩
    · rw [ez_231]
      simp only [m1, zbs, zBi, decide_eq_false q1, cond_false]
      exact ⟨σ, rfl, zFr_r σ, h.1⟩
  obtain ⟨N', rfl⟩ := zint (show 0 ≤ n by omega)
  have e200 : (200 < iI ((xt x).1 : Int) + iI (N' : Int)) = (200 < ((xt x).1 : Int) + N') := by
    rw [iI_add]; exact iI_lt (a := 200) (by decide) (by omega)
  by_cases q2 : 200 < ((xt x).1 : Int) + N'
  · refine zCq (-2) w (fun σ h => ?_) (fun σ h => ?_)
    · rw [ez_89]
      simp only [c1, zbs, zBi, decide_eq_true q1, cond_true, h.2.2.1.1, e200, if_pos q2]
      exact ⟨σ, rfl, zFr_r σ⟩
    · rw [ez_231]
      simp only [m1, zbs, zBi, decide_eq_true q1, cond_true, h.2.2.1.1, e200, if_pos q2]
      exact ⟨σ, rfl, zFr_r σ, h.1⟩
  have wl : (aFe e N' 0 (xt x)).1 = (xt x).1 + N' := aFe_l _ _ _
  refine ⟨xst x (aFe e N' 0 (xt x)), iI (((xt x).1 + N' : Nat) : Int), ⟨w.1, w.2.1, ⟨by rw [show xt (xst x (aFe e N' 0 (xt x))) = aFe e N' 0 (xt x) from rfl]; omega, aFe_w _ _ _ wt.2⟩, w.2.2.2⟩, fun σ h => ?_, fun σ h => ?_⟩
  · have key : ∀ (m k : Nat) (t : zXt) (τ : zM) (d2 : Option zV), k + m = N' → t.1 + m ≤ 200 → cTp t τ → ∃ υ, zrun (zev 62) zT_75 3 [some (.inr (.inr (0, 31))), some (.inr (.inl e)), d2, some (.inl (iI N')), some (.inl (iI k))] [] τ = some (0, 0, υ) ∧ zFr (fun g k _ => g = 0 ∧ (k = 31 ∨ k = 32)) τ υ ∧ cTp (aFe e m k t) υ := by
      intro m
      induction m with
      | zero =>
        intro k t τ d2 hk ht hT
        rw [ez_75_3, if_neg (by rw [iI_lt (by omega) (by omega)]; omega)]
        exact ⟨τ, rfl, zFr_r τ, hT⟩
      | succ m ih =>
        intro k t τ d2 hk ht hT
        have e20 : (iI (t.1 : Int) < 200) = ((t.1 : Int) < 200) := iI_lt (b := 200) (by omega) (by decide)
        rw [ez_75_3, if_pos (by rw [iI_lt (by omega) (by omega)]; omega), hT.1]
        simp only [e20, zBy_c e (show k < 8 by omega), hki1]
        rw [if_pos (by omega), zgd_t (iI_ink (z := t.1) (k := t.1) rfl (show t.1 < 200 by omega) (by decide)), iI_Nn (show t.1 ≤ 2147483647 by omega), zfe (by omega), hT.1, hki1]
        obtain ⟨υ, g1, g2, g3⟩ := ih (k + 1) (t.1 + 1, fun i => if i = t.1 then zBy e k else t.2 i) (zwI (zwI τ 0 32 t.1 (iI (zBy e k))) 0 31 0 (iI ((t.1 + 1 : Nat) : Int))) none (by omega) (by show t.1 + 1 + m ≤ 200; omega) ⟨zfs, fun i hi => by
          have hi : i < t.1 + 1 := hi
          show _ = iI (if i = t.1 then zBy e k else t.2 i)
          by_cases q : i = t.1
          · subst q; rw [if_pos rfl, zfe (by omega), zfs]
          · rw [if_neg q, zfe (by omega), zfe (by omega)]; exact hT.2 i (by omega)⟩
        exact ⟨υ, g1, zFr_tt (zFr_tt (zFr_w (by omega)) (zFr_w (by omega))) g2, g3⟩
    obtain ⟨υ, g1, g2, g3⟩ := key N' 0 (xt x) σ none (by omega) (by omega) h.2.2.1
    have e75 : zev 63 75 [.inr (.inr (0, 31)), .inr (.inl e), .inl (iI N')] σ = some (0, 0, υ) := by
      rw [ez_75]; exact g1
    have g31 := g3.1
    rw [wl] at g31
    rw [ez_89]
    simp only [c1, zbs, zBi, decide_eq_true q1, cond_true, h.2.2.1.1, e200, if_neg q2, e75, g31]
    exact ⟨0, υ, rfl, RC_t h g2 g3⟩
  · have key : ∀ (m k : Nat) (t : zXt) (τ : zM) (d2 : Option zV), k + m = N' → t.1 + m ≤ 200 → mTp t τ → ∃ υ, zrun (zev 63) zT_231 32 [some (.inr (.inr (0, 60))), some (.inr (.inl e)), d2, some (.inl (iI N')), some (.inl (iI k))] [] τ = some (iI ((t.1 + m : Nat) : Int), 0, υ) ∧ zFr (fun g k i => g = 0 ∧ ((k = 60 ∧ i = 18) ∨ k = 72)) τ υ ∧ mTp (aFe e m k t) υ := by
      intro m
      induction m with
      | zero =>
        intro k t τ d2 hk ht hT
        rw [ez_231_32, if_neg (by rw [iI_lt (by omega) (by omega)]; omega), hT.1]
        exact ⟨τ, rfl, zFr_r τ, hT⟩
      | succ m ih =>
        intro k t τ d2 hk ht hT
        rw [ez_231_32, if_pos (by rw [iI_lt (by omega) (by omega)]; omega), hT.1]
        simp only [zBy_m, hki1]
        rw [zgd_t (iI_ink (z := t.1) (k := t.1) rfl (show t.1 < 200 by omega) (by decide)), iI_Nn (show t.1 ≤ 2147483647 by omega), zfe (by omega), hT.1, hki1]
        obtain ⟨υ, g1, g2, g3⟩ := ih (k + 1) (t.1 + 1, fun i => if i = t.1 then zBy e k else t.2 i) (zwI (zwI τ 0 72 t.1 (iI (zBy e k))) 0 60 18 (iI ((t.1 + 1 : Nat) : Int))) none (by omega) (by show t.1 + 1 + m ≤ 200; omega) ⟨zfs, fun i hi => by
          have hi : i < t.1 + 1 := hi
          show _ = iI (if i = t.1 then zBy e k else t.2 i)
          by_cases q : i = t.1
          · subst q; rw [if_pos rfl, zfe (by omega), zfs]
          · rw [if_neg q, zfe (by omega), zfe (by omega)]; exact hT.2 i (by omega)⟩
        refine ⟨υ, g1.trans ?_, zFr_tt (zFr_tt (zFr_w (by omega)) (zFr_w (by omega))) g2, g3⟩
        show some (iI ((t.1 + 1 + m : Nat) : Int), 0, υ) = _
        rw [show t.1 + 1 + m = t.1 + (m + 1) by omega]
    obtain ⟨υ, g1, g2, g3⟩ := key N' 0 (xt x) σ none (by omega) (by omega) h.2.2.1
    have g1 : zrun (zev 63) zT_231 32 [some (.inr (.inr (0, 60))), some (.inr (.inl e)), none, some (.inl (iI N')), some (.inl 0)] [] σ = _ := g1
    rw [ez_231]
    simp only [m1, zbs, zBi, decide_eq_true q1, cond_true, h.2.2.1.1, e200, if_neg q2, g1]
    exact ⟨0, υ, rfl, RM_t h g2 g3⟩
