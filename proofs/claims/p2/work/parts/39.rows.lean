theorem cKe_f {x : zXx} {σ τ : zM} (h : cKe x σ) (e : τ.1 0 30 3 = σ.1 0 30 3) (e2 : ∀ k, k ≤ 22 → τ.1 2 k = σ.1 2 k) : cKe x τ :=
  ⟨e.trans h.1, fun q => cA_c (h.2 q) (fun k a _ _ _ => e2 k (by omega)) (by rw [e2 19 (by decide)])⟩
theorem cTp_f {t : zXt} {σ τ : zM} (h : cTp t σ) (e : τ.1 0 31 0 = σ.1 0 31 0) (e2 : τ.1 0 32 = σ.1 0 32) : cTp t τ := ⟨e.trans h.1, fun i hi => by rw [e2]; exact h.2 i hi⟩
theorem cRo_f {r : zXr} {σ τ : zM} (h : cRo r σ) (e : τ.1 0 38 0 = σ.1 0 38 0) (e2 : ∀ k, τ.1 k 40 = σ.1 k 40) : cRo r τ := ⟨e.trans h.1, fun k w hk hw => by rw [e2]; exact h.2 k w hk hw⟩
theorem cHo_f {r : zXh} {σ τ : zM} (h : cHo r σ) (e : ∀ k, 42 ≤ k → k ≤ 48 → τ.1 0 k = σ.1 0 k) (e2 : τ.2 = σ.2) : cHo r τ := fun j hj => by
  rw [e 42 (by decide) (by decide), e 43 (by decide) (by decide), e 46 (by decide) (by decide), e 47 (by decide) (by decide), e 48 (by decide) (by decide), e2]
  exact h j hj
theorem cAc_f {a : zXt} {σ τ : zM} (h : cAc a σ) (e : τ.1 0 49 0 = σ.1 0 49 0) (e2 : τ.1 0 50 = σ.1 0 50) : cAc a τ := ⟨e.trans h.1, fun i hi => by rw [e2]; exact h.2 i hi⟩
theorem mKe_f {x : zXx} {σ τ : zM} (h : mKe x σ) (e : τ.1 0 60 3 = σ.1 0 60 3) (e2 : τ.1 0 62 = σ.1 0 62) : mKe x τ := ⟨e.trans h.1, fun q => mS_f (h.2 q) e2⟩
theorem mTp_f {t : zXt} {σ τ : zM} (h : mTp t σ) (e : τ.1 0 60 18 = σ.1 0 60 18) (e2 : τ.1 0 72 = σ.1 0 72) : mTp t τ := ⟨e.trans h.1, fun i hi => by rw [e2]; exact h.2 i hi⟩
theorem mRo_f {r : zXr} {σ τ : zM} (h : mRo r σ) (e : τ.1 0 60 16 = σ.1 0 60 16) (e2 : τ.1 0 71 = σ.1 0 71) : mRo r τ := ⟨e.trans h.1, fun k w hk hw => by rw [e2]; exact h.2 k w hk hw⟩
theorem mHo_f {r : zXh} {σ τ : zM} (h : mHo r σ) (e : ∀ k, 73 ≤ k → k ≤ 78 → τ.1 0 k = σ.1 0 k) : mHo r τ := fun j hj => by
  rw [e 73 (by decide) (by decide), e 74 (by decide) (by decide), e 75 (by decide) (by decide), e 76 (by decide) (by decide), e 77 (by decide) (by decide), e 78 (by decide) (by decide)]
  exact h j hj
theorem mAc_f {a : zXt} {σ τ : zM} (h : mAc a σ) (e : τ.1 0 60 32 = σ.1 0 60 32) (e2 : τ.1 0 79 = σ.1 0 79) : mAc a τ := ⟨e.trans h.1, fun i hi => by rw [e2]; exact h.2 i hi⟩
def xsr (x : zXx) (r : zXr) : zXx := (x.1, x.2.1, x.2.2.1, x.2.2.2.1, r, x.2.2.2.2.2)
abbrev WRc : Nat → Nat → Nat → Prop := fun g k i => WC g k i ∨ (g = 0 ∧ k = 38) ∨ k = 40
theorem RC_r {x : zXx} {r : zXr} {σ τ : zM} (h : RC x σ) (f : zFr WRc σ τ) (hr : cRo r τ) : RC (xsr x r) τ := by
  obtain ⟨h1, h2, h3, h4, h5, h6⟩ := h
  have e : ∀ k, (k ≤ 21 ∧ k ≠ 13 ∧ k ≠ 14 ∧ k ≠ 19) ∨ (30 ≤ k ∧ k ≤ 32) ∨ (41 ≤ k ∧ k ≤ 48) ∨ k = 50 → τ.1 0 k = σ.1 0 k := fun k hk => zFr_f f (fun i => by omega)
  exact ⟨cA_c h1 (fun k a b c d => e k (by omega)) (f.1 _ _ _ (by omega)), cKe_f (x := x) h2 (by rw [e 30 (by omega)]) (fun k hk => zFr_f f (fun i => by omega)), cTp_f h3 (by rw [e 31 (by omega)]) (e 32 (by omega)), hr, cHo_f h5 (fun k a b => e k (by omega)) f.2, cAc_f h6 (f.1 _ _ _ (by omega)) (e 50 (by omega))⟩
abbrev WRm : Nat → Nat → Nat → Prop := fun g k i => g = 0 ∧ (k = 61 ∨ (63 ≤ k ∧ k ≤ 71) ∨ (k = 60 ∧ i ≠ 3 ∧ i ≠ 18 ∧ i ≠ 32))
theorem RM_r {x : zXx} {r : zXr} {σ τ : zM} (h : RM x σ) (f : zFr WRm σ τ) (hS : mS 61 x.1 τ) (hr : mRo r τ) : RM (xsr x r) τ := by
  obtain ⟨h1, h2, h3, h4, h5, h6⟩ := h
  have e : ∀ k, k = 62 ∨ 72 ≤ k → τ.1 0 k = σ.1 0 k := fun k hk => zFr_f f (fun i => by omega)
  exact ⟨hS, mKe_f (x := x) h2 (f.1 _ _ _ (by omega)) (e 62 (by omega)), mTp_f h3 (f.1 _ _ _ (by omega)) (e 72 (by omega)), hr, mHo_f h5 (fun k a b => e k (by omega)), mAc_f h6 (f.1 _ _ _ (by omega)) (e 79 (by omega))⟩
def aPk (S : zS) (z : Int) : Nat → Int
  | 0 => z
  | k + 1 => aPar S (aPk S z k).toNat
def aPl (S : zS) : Nat → Int → Nat
  | 0, _ => 0
  | n + 1, z => if z < 0 then 0 else aPl S n (aPar S z.toNat) + 1
theorem aPl_le {S : zS} : ∀ (n : Nat) (z : Int), aPl S n z ≤ n
  | 0, _ => Nat.le_refl _
  | n + 1, z => by
    show (if z < 0 then 0 else aPl S n (aPar S z.toNat) + 1) ≤ n + 1
    have := aPl_le (S := S) n (aPar S z.toNat)
    split <;> omega
def aRw (S : zS) (z : Int) : Nat → Nat → Int := fun k w => if w = 0 then aPk S z k else if w = 1 then aBear S (aPk S z k).toNat else aHold S (aPk S z k).toNat
theorem aPk_r {S : zS} (w : wB S) {b : Nat} (hb : b < (S 0).toNat) : ∀ (k : Nat), k < aPl S 9 b → 0 ≤ aPk S b k ∧ aPk S b k < S 0 := by
  have key : ∀ (n k : Nat), k + n = 9 → (k + aPl S n (aPk S b k) = aPl S 9 b) → (∀ j, j < k → 0 ≤ aPk S b j ∧ aPk S b j < S 0) → -1 ≤ aPk S b k ∧ aPk S b k < S 0 → ∀ j, j < aPl S 9 b → 0 ≤ aPk S b j ∧ aPk S b j < S 0 := by
    intro n
    induction n with
    | zero =>
      intro k hk hl h hz j hj
      have : aPl S 0 (aPk S b k) = 0 := rfl
      exact h j (by omega)
    | succ n ih =>
      intro k hk hl h hz j hj
      by_cases q : aPk S b k < 0
      · have : aPl S (n + 1) (aPk S b k) = 0 := if_pos q
        exact h j (by omega)
      · have e : aPl S (n + 1) (aPk S b k) = aPl S n (aPk S b (k + 1)) + 1 := if_neg q
        obtain ⟨c, hc⟩ := zint (show 0 ≤ aPk S b k by omega)
        have w2 := w.2.2 c (by omega)
        have e2 : aPk S b (k + 1) = aPar S c := by show aPar S (aPk S b k).toNat = _; rw [hc, Int.toNat_natCast]
        have hp : aPar S c < c ∧ -1 ≤ aPar S c := by unfold aPar; omega
        refine ih (k + 1) (by omega) (by omega) (fun j hj => ?_) ⟨by omega, by omega⟩ j hj
        by_cases q2 : j = k
        · subst q2; omega
        · exact h j (by omega)
  exact key 9 0 rfl (by rw [show aPk S b 0 = (b : Int) from rfl]; omega) (fun j hj => absurd hj (Nat.not_lt_zero _)) ⟨by show -1 ≤ (b : Int); omega, by show (b : Int) < S 0; omega⟩
theorem zc46_10 {b : Nat} {S : zS} (wa : wA S) : ∀ (n k : Nat) (σ : zM) (d2 : Option zV), k + n = 9 → aPk S b k < n → -1 ≤ aPk S b k ∧ aPk S b k < S 0 → k + aPl S n (aPk S b k) = aPl S 9 b → cA 0 S σ → σ.1 0 38 0 = iI k → (∀ j w, j < k → w < 3 → σ.1 j 40 w = iI (aRw S b j w)) → ∃ τ, zrun (zev 62) zT_46 10 [some (.inr (.inr (0, 38))), some (.inr (.inr (0, 0))), d2, some (.inl (iI (cE (aPk S b k)))), some (.inl (iI k))] [] σ = some (0, 0, τ) ∧ zFr WRc σ τ ∧ cRo (aPl S 9 b, aRw S b) τ := by
  have b0 := wa.1.1
  have b1 := wa.1.2.1
  intro n
  induction n with
  | zero =>
    intro k σ d2 hk hz hz2 hl hA hc hr
    have e0 : aPl S 0 (aPk S b k) = 0 := rfl
    rw [ez_46_10, if_neg (by rw [iI_lt9 (by omega)]; omega)]
    exact ⟨σ, rfl, zFr_r σ, by show σ.1 0 38 0 = iI ((aPl S 9 b : Nat) : Int); rw [hc]; congr 2 <;> omega, fun j w hj hw => hr j w (by omega) hw⟩
  | succ n ih =>
    intro k σ d2 hk hz hz2 hl hA hc hr
    have hcz : zrn (cE (aPk S b k)) := by unfold cE; split <;> omega
    rw [ez_46_10, if_pos (by rw [iI_lt9 (by omega)]; omega), zc13 (d := 61) hA.1.1 ⟨b0, b1⟩ hcz]
    simp only [zbs, zBi]
    by_cases q : aPk S b k < 0
    · have e0 : aPl S (n + 1) (aPk S b k) = 0 := if_pos q
      rw [decide_eq_false (by rw [show cE (aPk S b k) = -9 from if_pos q]; omega), cond_false]
      exact ⟨σ, rfl, zFr_r σ, by show σ.1 0 38 0 = iI ((aPl S 9 b : Nat) : Int); rw [hc]; congr 2 <;> omega, fun j w hj hw => hr j w (by omega) hw⟩
    · have e0 : aPl S (n + 1) (aPk S b k) = aPl S n (aPk S b (k + 1)) + 1 := if_neg q
      rw [show cE (aPk S b k) = aPk S b k from if_neg q]
      obtain ⟨c, hcc⟩ := zint (show 0 ≤ aPk S b k by omega)
      have w2 := wa.1.2.2 c (by omega)
      have e2 : aPk S b (k + 1) = aPar S c := by show aPar S (aPk S b k).toNat = _; rw [hcc, Int.toNat_natCast]
      have hp : aPar S c < c ∧ -1 ≤ aPar S c := by unfold aPar; omega
      rw [hcc, decide_eq_true (by omega), cond_true]
      have hA1 : cA 0 S (zwI σ k 40 0 (iI c)) := cA_c hA (fun _ _ _ _ _ => zfn (by omega)) (zfe (by omega))
      have hA2 : cA 0 S (zwI (zwI σ k 40 0 (iI c)) k 40 1 (iI (aBear S c))) := cA_c hA1 (fun _ _ _ _ _ => zfn (by omega)) (zfe (by omega))
      obtain ⟨τ, g1, g2⟩ := zc16 (d := 58) (b := c) hA2.1 hA2.2.2.1 hA2.2.2.2.2.2.1 wa.1 wa.2.1 wa.2.2.2.2.1 (by omega)
      have hA3 : cA 0 S τ := cA_c hA2 (fun k a b c d => zFr_f g2 (fun i => by omega)) (g2.1 _ _ _ (by omega))
      have hA4 : cA 0 S (zwI (zwI τ k 40 2 (iI (aHold S c))) 0 38 0 (iI ((k + 1 : Nat) : Int))) := cA_c hA3 (fun _ _ _ _ _ => by rw [zfn (by omega), zfn (by omega)]) (by rw [zfe (by omega), zfe (by omega)])
      simp only [zgd_t (iI_ink (z := k) (k := k) rfl (show k < 9 by omega) (by decide)), iI_Nn (show k ≤ 2147483647 by omega), zc26 (d := 59) hA1.1 hA1.2.2.1 hA1.2.2.2.1 wa.1 wa.2.1 wa.2.2.1 (show c < (S 0).toNat by omega), zbs, g1, zgd_t (iI_ink (z := c) (k := c) rfl (show c < 9 by omega) (by decide)), iI_Nn (show c ≤ 2147483647 by omega), hki1, (hA4.1.2 c (by omega)).2.1]
      have f : zFr WRc σ (zwI (zwI τ k 40 2 (iI (aHold S c))) 0 38 0 (iI ((k + 1 : Nat) : Int))) := zFr_tt (zFr_tt (zFr_tt (zFr_tt (zFr_w (by omega)) (zFr_w (by omega))) (zFr_i g2 fun _ _ _ q => by omega)) (zFr_w (by omega))) (zFr_w (by omega))
      have ih' := ih (k + 1) _ none (by omega) (by omega) ⟨by omega, by omega⟩ (by omega) hA4 zfs (fun j w hj hw => by
        rw [zfe (by omega)]
        by_cases qj : j = k
        · subst qj
          have hR : aRw S b j w = if w = 0 then (c : Int) else if w = 1 then aBear S c else aHold S c := by unfold aRw; rw [hcc, Int.toNat_natCast]
          rw [hR]
          rcases (by omega : w = 0 ∨ w = 1 ∨ w = 2) with rfl | rfl | rfl
          · rw [zfe (by omega), g2.1 _ _ _ (by omega), zfe (by omega), zfs]; rfl
          · rw [zfe (by omega), g2.1 _ _ _ (by omega), zfs]; rfl
          · rw [zfs]; rfl
        · rw [zfe (by omega), g2.1 _ _ _ (by omega), zfe (by omega), zfe (by omega)]
          exact hr j w (by omega) hw)
      rw [e2] at ih'
      obtain ⟨τ2, k1, k2, k3⟩ := ih'
      exact ⟨τ2, k1, zFr_tt f k2, k3⟩
theorem zm226_21 {b : Nat} {S : zS} (wa : wA S) : ∀ (n k : Nat) (σ : zM) (d1 : Option zV), k + n = 9 → aPk S b k < n → -1 ≤ aPk S b k ∧ aPk S b k < S 0 → k + aPl S n (aPk S b k) = aPl S 9 b → mS 61 S σ → mR 65 S (aHold S) σ → mR 66 S (aBear S) σ → σ.1 0 60 16 = iI k → (∀ j w, j < k → w < 3 → σ.1 0 71 (3 * j + w) = iI (aRw S b j w)) → ∃ τ, zrun (zev 63) zT_226 21 [some (.inr (.inr (0, 60))), d1, some (.inl (iI (aPk S b k)))] [] σ = some (iI (aPl S 9 b), 0, τ) ∧ zFr WRm σ τ ∧ mS 61 S τ ∧ mRo (aPl S 9 b, aRw S b) τ := by
  have b0 := wa.1.1
  have b1 := wa.1.2.1
  intro n
  induction n with
  | zero =>
    intro k σ d1 hk hz hz2 hl hS hh he hc hr
    have e0 : aPl S 0 (aPk S b k) = 0 := rfl
    have ek : k = aPl S 9 b := by omega
    rw [ez_226_21, if_pos (by rw [iI_lt0 (by omega)]; omega), hc, ← ek]
    exact ⟨σ, rfl, zFr_r σ, hS, hc, hr⟩
  | succ n ih =>
    intro k σ d1 hk hz hz2 hl hS hh he hc hr
    by_cases q : aPk S b k < 0
    · have e0 : aPl S (n + 1) (aPk S b k) = 0 := if_pos q
      have ek : k = aPl S 9 b := by omega
      rw [ez_226_21, if_pos (by rw [iI_lt0 (by omega)]; omega), hc, ← ek]
      exact ⟨σ, rfl, zFr_r σ, hS, hc, hr⟩
    · have e0 : aPl S (n + 1) (aPk S b k) = aPl S n (aPk S b (k + 1)) + 1 := if_neg q
      obtain ⟨c, hcc⟩ := zint (show 0 ≤ aPk S b k by omega)
      have w2 := wa.1.2.2 c (by omega)
      have e2 : aPk S b (k + 1) = aPar S c := by show aPar S (aPk S b k).toNat = _; rw [hcc, Int.toNat_natCast]
      have hp : aPar S c < c ∧ -1 ≤ aPar S c := by unfold aPar; omega
      have i0 : (3 : Int32) * iI k = iI ((3 * k : Nat) : Int) := by
        show iI 3 * iI k = _
        rw [iI_mul]; congr 1
      have i1 : iI ((3 * k : Nat) : Int) + 1 = iI ((3 * k + 1 : Nat) : Int) := by rw [iI_a1]; congr 1
      have i2 : iI ((3 * k : Nat) : Int) + 2 = iI ((3 * k + 2 : Nat) : Int) := by
        show iI ((3 * k : Nat) : Int) + iI 2 = _
        rw [iI_add]; congr 1
      have r1 : ∀ v1 : Int32, (zwI σ 0 71 (3 * k) v1).1 0 60 16 = iI k := fun v1 => by rw [zfe (by omega), hc]
      have r2 : ∀ v1 v2 : Int32, (zwI (zwI σ 0 71 (3 * k) v1) 0 71 (3 * k + 1) v2).1 0 60 16 = iI k := fun v1 v2 => by rw [zfe (by omega), zfe (by omega), hc]
      have r3 : ∀ v1 v2 v3 : Int32, (zwI (zwI (zwI σ 0 71 (3 * k) v1) 0 71 (3 * k + 1) v2) 0 71 (3 * k + 2) v3).1 0 60 16 = iI k := fun v1 v2 v3 => by rw [zfe (by omega), zfe (by omega), zfe (by omega), hc]
      have s1 : ∀ v1 : Int32, (zwI σ 0 71 (3 * k) v1).1 0 66 c = iI (aBear S c) := fun v1 => by rw [zfe (by omega)]; exact he c (by omega)
      have s2 : ∀ v1 v2 : Int32, (zwI (zwI σ 0 71 (3 * k) v1) 0 71 (3 * k + 1) v2).1 0 65 c = iI (aHold S c) := fun v1 v2 => by rw [zfe (by omega), zfe (by omega)]; exact hh c (by omega)
      rw [ez_226_21, hcc, if_neg (by rw [iI_lt0 (by omega)]; omega)]
      simp only [hc, i0, zgd_t (iI_ink (z := ((3 * k : Nat) : Int)) (k := 3 * k) rfl (show 3 * k < 27 by omega) (by decide)), iI_Nn (show 3 * k ≤ 2147483647 by omega), zgd_t (iI_ink (z := c) (k := c) rfl (show c < 9 by omega) (by decide)), iI_Nn (show c ≤ 2147483647 by omega), r1, i1, zgd_t (iI_ink (z := ((3 * k + 1 : Nat) : Int)) (k := 3 * k + 1) rfl (show 3 * k + 1 < 27 by omega) (by decide)), iI_Nn (show 3 * k + 1 ≤ 2147483647 by omega), s1, r2, i2, zgd_t (iI_ink (z := ((3 * k + 2 : Nat) : Int)) (k := 3 * k + 2) rfl (show 3 * k + 2 < 27 by omega) (by decide)), iI_Nn (show 3 * k + 2 ≤ 2147483647 by omega), s2, r3, hki1]
      generalize hτ : zwI (zwI (zwI (zwI σ 0 71 (3 * k) (iI c)) 0 71 (3 * k + 1) (iI (aBear S c))) 0 71 (3 * k + 2) (iI (aHold S c))) 0 60 16 (iI ((k + 1 : Nat) : Int)) = τ
      have f : zFr WRm σ τ := by
        subst hτ
        exact zFr_tt (zFr_tt (zFr_tt (zFr_w (by omega)) (zFr_w (by omega))) (zFr_w (by omega))) (zFr_w (by omega))
      have e6 : ∀ k', k' = 61 ∨ k' = 65 ∨ k' = 66 → τ.1 0 k' = σ.1 0 k' := fun k' hk' => by subst hτ; rw [zfn (by omega), zfn (by omega), zfn (by omega), zfn (by omega)]
      have hS1 : mS 61 S τ := mS_f hS (e6 61 (by omega))
      rw [zm158 (d := 60) hS1 (show c < 9 by omega)]
      simp only [zbs]
      have ih' := ih (k + 1) τ none (by omega) (by omega) ⟨by omega, by omega⟩ (by omega) hS1 (mR_f hh (e6 65 (by omega))) (mR_f he (e6 66 (by omega))) (by subst hτ; exact zfs) (fun j w hj hw => by
        subst hτ
        by_cases qj : j = k
        · subst qj
          have hR : aRw S b j w = if w = 0 then (c : Int) else if w = 1 then aBear S c else aHold S c := by unfold aRw; rw [hcc, Int.toNat_natCast]
          rw [hR]
          rcases (by omega : w = 0 ∨ w = 1 ∨ w = 2) with rfl | rfl | rfl
          · rw [zfe (by omega), zfe (by omega), zfe (by omega), Nat.add_zero, zfs]; rfl
          · rw [zfe (by omega), zfe (by omega), zfs]; rfl
          · rw [zfe (by omega), zfs]; rfl
        · rw [zfe (by omega), zfe (by omega), zfe (by omega), zfe (by omega)]
          exact hr j w (by omega) hw)
      rw [e2] at ih'
      obtain ⟨τ2, k1, k2, k3, k4⟩ := ih'
      exact ⟨τ2, k1, zFr_tt f k2, k3, k4⟩
theorem zx_124 {x : zXx} (w : WX x) (z : Int) (hz : zrn z) : zCall 124 226 [.inl (iI z)] x := by
  have b0 := w.1.1.1
  have b1 := w.1.1.2.1
  by_cases q : 0 ≤ z ∧ z < x.1 0
  case neg =>
    refine zCq (-1) w (fun σ h => ?_) (fun σ h => ?_)
    · rw [ez_124]
      simp only [zc13 h.1.1.1 ⟨b0, b1⟩ hz, zbs, zBi, decide_eq_false q, cond_false]
      exact ⟨σ, rfl, zFr_r σ⟩
    · rw [ez_226]
      simp only [zm150 (d := 61) h.1 ⟨b0, b1⟩ hz, zbs, zBi, decide_eq_false q, cond_false]
      exact ⟨σ, rfl, zFr_r σ, h.1⟩
  case pos =>
    obtain ⟨b, rfl⟩ := zint q.1
    have hb : b < (x.1 0).toNat := by omega
    have hle := aPl_le (S := x.1) 9 b
    have wr : wO (aPl x.1 9 b, aRw x.1 b) := ⟨hle, fun k w' hk hw' => by
      have := aPk_r w.1.1 hb k hk
      obtain ⟨c, hc⟩ := zint this.1
      have h1 := aBear_b w.1.1 w.1.2.1 w.1.2.2.1 (show c < (x.1 0).toNat by omega)
      have h2 := aHold_b w.1.1 w.1.2.1 w.1.2.2.2.2.1 (show c < (x.1 0).toNat by omega)
      show zrn (aRw x.1 b k w')
      unfold aRw
      rw [hc, Int.toNat_natCast]
      split
      · omega
      · split <;> omega⟩
    refine ⟨xsr x (aPl x.1 9 b, aRw x.1 b), iI (aPl x.1 9 b), ⟨w.1, w.2.1, w.2.2.1, wr, w.2.2.2.2⟩, fun σ h => ?_, fun σ h => ?_⟩
    · have hA : cA 0 x.1 (zwI σ 0 38 0 0) := cA_c h.1 (fun _ _ _ _ _ => zfn (by omega)) (zfe (by omega))
      obtain ⟨τ, g1, g2, g3⟩ := zc46_10 (b := b) w.1 9 0 (zwI σ 0 38 0 0) (some (.inl (iI b))) rfl (by show (b : Int) < 9; omega) ⟨by show -1 ≤ (b : Int); omega, by show (b : Int) < x.1 0; omega⟩ (Nat.zero_add _) hA zfs (fun j _ hj _ => absurd hj (Nat.not_lt_zero _))
      rw [show cE (aPk x.1 b 0) = b from if_neg (show ¬ (b : Int) < 0 by omega)] at g1
      have g1 : zrun (zev 62) zT_46 10 [some (.inr (.inr (0, 38))), some (.inr (.inr (0, 0))), some (.inl (iI b)), some (.inl (iI b)), some (.inl 0)] [] (zwI σ 0 38 0 0) = some (0, 0, τ) := g1
      have f : zFr WRc σ τ := zFr_tt (zFr_w (by omega)) g2
      have e46 : zev 63 46 [.inr (.inr (0, 38)), .inr (.inr (0, 0)), .inl (iI b)] σ = some (0, 0, τ) := by
        rw [ez_46]; exact g1
      rw [ez_124]
      simp only [zc13 h.1.1.1 ⟨b0, b1⟩ hz, zbs, zBi, decide_eq_true q, cond_true, e46]
      exact ⟨0, τ, by rw [g3.1], RC_r h f g3⟩
    · obtain ⟨τ, c1, c2, c3, c4, c5⟩ := zm172 (d := 56) h.1 w.1
      obtain ⟨τ2, g1, g2, g3, g4⟩ := zm226_21 (b := b) w.1 9 0 (zwI τ 0 60 16 0) (some (.inl (iI b))) rfl (by show (b : Int) < 9; omega) ⟨by show -1 ≤ (b : Int); omega, by show (b : Int) < x.1 0; omega⟩ (Nat.zero_add _) (mS_f c3 (zfn (by omega))) (mR_f c4 (zfn (by omega))) (mR_f c5 (zfn (by omega))) zfs (fun j _ hj _ => absurd hj (Nat.not_lt_zero _))
      rw [ez_226]
      simp only [zm150 (d := 61) h.1 ⟨b0, b1⟩ hz, zbs, zBi, decide_eq_true q, cond_true, c1]
      exact ⟨0, τ2, g1, RM_r h (zFr_tt (zFr_tt (zFr_i c2 fun _ _ _ q => by omega) (zFr_w (by omega))) g2) g3 g4⟩
