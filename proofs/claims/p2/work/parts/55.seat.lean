abbrev WSc (q : Nat) : Nat → Nat → Nat → Prop := fun g k i => (g = 3 ∧ k = 22) ∨ (g = 0 ∧ k = 37 ∧ q ≤ i)
theorem zc29v {d : Nat} {T V : zS} {σ : zM} (w : wA T) (wV : wA V) (hT : ∀ i, i < 52 → V i = T i) (hA : cA 3 T σ) (hs : cS 3 T (aSp V) σ) : zev (d + 3) 29 [.inr (.inr (3, 0))] σ = some (zcr (aCr V (aSp V)) ((V 0).toNat), 0, σ) := by
  have b1 := w.1.2.1
  have e0 : V 0 = T 0 := hT 0 (by decide)
  have hr := aSp_r wV
  have := zc29 (d := d) hA.1 hA.2.1 w.1 hs (fun b hb => hr b (by rw [e0]; exact hb))
  rw [this, e0]
  congr 2
  refine zcr_c fun i hi => ?_
  unfold aCr aBrk
  rw [hT (11 + 5 * i) (by omega)]
theorem zc70 {P : Nat → Nat} {L : Nat} (hL : L ≤ 4) (inj : ∀ i j, i < j → j < L → P i < P j) {T : zS} (w : wA T) (hP : ∀ j, j < L → P j < (T 2).toNat) : ∀ (n k d : Nat) (V : zS) (σ : zM), k + n = L → wA V → (∀ i, (∀ p, i ≠ 54 + 3 * p) → V i = T i) → (∀ j, k ≤ j → j < L → aSeat V (P j) < 0) → aCk V = false → cA 3 T σ → cS 3 T (aSp V) σ → σ.1 0 35 0 = iI L → (∀ i, i < L → σ.1 0 36 i = iI (P i)) → ∃ τ, zev (d + n + 5) 70 [.inr (.inr (0, 35)), .inl (iI k)] σ = some (zB (aSf P n k V).isSome, 0, τ) ∧ zFr (WSc k) σ τ ∧ (aSf P n k V = none → cS 3 T (aSp V) τ) ∧ ∀ l, aSf P n k V = some l → ∀ i, i < n → τ.1 0 37 (k + i) = iI (l.getD i 0 : Nat)
  | 0, k, d, V, σ, hk, wV, hT, hl, hc, hA, hs, h35, h36 => by
    have e : aSf P 0 k V = some [] := by
      show (bif aCk V then none else some []) = _
      rw [hc]; rfl
    rw [ez_70, h35]
    simp only [iI_lt (show zrn (k : Int) by omega) (show zrn (L : Int) by omega)]
    rw [if_neg (by omega), e, zgd_t (by decide)]
    exact ⟨σ, rfl, zFr_r σ, (fun h => by cases h), fun l _ i hi => by omega⟩
  | n + 1, k, d, V, σ, hk, wV, hT, hl, hc, hA, hs, h35, h36 => by
    have b0 := w.1.1
    have b1 := w.1.2.1
    have p1 := w.2.2.1.2.1
    have hPk := hP k (by omega)
    have v0 : V 0 = T 0 := hT 0 (fun p => by omega)
    have v2 : V 2 = T 2 := hT 2 (fun p => by omega)
    have vw : V (52 + 3 * P k) = T (52 + 3 * P k) := hT _ (fun p => by omega)
    have hPV : P k < (V 2).toNat := by rw [v2]; exact hPk
    have hg4 : ∀ {y : zR}, zgd (zin (iI (k : Int)) 4) y = y := fun {y} => zgd_t (iI_ink (z := k) (k := k) rfl (by omega) (by decide))
    have hN : Int32.toNatClampNeg (iI (k : Int)) = k := iI_Nn (by omega)
    have hgP : ∀ {y : zR}, zgd (zin (iI (P k : Int)) 8) y = y := fun {y} => zgd_t (iI_ink (z := P k) (k := P k) rfl (by omega) (by decide))
    have hNP : Int32.toNatClampNeg (iI (P k : Int)) = P k := iI_Nn (by omega)
    have hwt := w.2.2.1.2.2 (P k) hPk
    have key : ∀ (m b : Nat) (σ : zM), b + m = (V 0).toNat → cA 3 T σ → cS 3 T (aSp V) σ → σ.1 0 35 0 = iI L → (∀ i, i < L → σ.1 0 36 i = iI (P i)) → ∃ τ, zrun (zev (d + n + 5)) zT_70 30 [some (.inr (.inr (0, 35))), some (.inl (iI k)), some (.inl (iI (T (52 + 3 * P k)))), some (.inl (iI b))] [] σ = some (zB (aSx (fun b => aSf P n (k + 1) (aSit V (P k) b)) (aBrk V) m b).isSome, 0, τ) ∧ zFr (WSc k) σ τ ∧ (aSx (fun b => aSf P n (k + 1) (aSit V (P k) b)) (aBrk V) m b = none → cS 3 T (aSp V) τ) ∧ ∀ l, aSx (fun b => aSf P n (k + 1) (aSit V (P k) b)) (aBrk V) m b = some l → ∀ i, i < n + 1 → τ.1 0 37 (k + i) = iI (l.getD i 0 : Nat) := by
      intro m
      induction m with
      | zero =>
        intro b σ hb hA hs h35 h36
        rw [ez_70_30, hA.1.1, if_neg (by rw [iI_lt (by omega) (by omega)]; omega), zgd_t (by decide)]
        exact ⟨σ, rfl, zFr_r σ, fun _ => hs, fun l h => by cases h⟩
      | succ m ih =>
        intro b σ hb hA hs h35 h36
        have hb9 : b < (V 0).toNat := by omega
        have hbT : b < (T 0).toNat := by omega
        have ub : aBrk V b = aBrk T b := by
          unfold aBrk
          rw [hT (11 + 5 * b) (fun p => by omega)]
        have e14 : zev (d + n + 5) 14 [.inr (.inr (3, 1)), .inl (iI b)] σ = some (zB (!aBrk V b), 0, σ) := by
          have := zc14 (d := d + n + 3) (z := (b : Int)) hA.1 hA.2.1 w.1 (by omega)
          rw [decide_eq_true (by omega), Bool.true_and, Int.toNat_natCast, ← ub] at this
          exact this
        have eg : aSx (fun b => aSf P n (k + 1) (aSit V (P k) b)) (aBrk V) (m + 1) b = bif aBrk V b then aSx (fun b => aSf P n (k + 1) (aSit V (P k) b)) (aBrk V) m (b + 1) else match aSf P n (k + 1) (aSit V (P k) b) with
          | some l => some (b :: l)
          | none => aSx (fun b => aSf P n (k + 1) (aSit V (P k) b)) (aBrk V) m (b + 1) := rfl
        rw [eg, ez_70_30, hA.1.1, if_pos (by rw [iI_lt (by omega) (by omega)]; omega)]
        simp only [e14, zbs, zBi, hki1]
        cases q : aBrk V b
        case true =>
          rw [Bool.not_true, cond_false, cond_true]
          exact ih (b + 1) σ (by omega) hA hs h35 h36
        case false =>
          rw [Bool.not_false, cond_true, cond_false]
          have hs1 : cS 3 T (aSp V) (zwI σ 0 37 k (iI b)) := fun u hu => by rw [zfe (by omega)]; exact hs u hu
          have hA1 : cA 3 T (zwI σ 0 37 k (iI b)) := cA_c hA (fun k a _ _ _ => zfn (by omega)) (zfe (by omega))
          obtain ⟨τ, g1, g2, g3⟩ := zc28n (d := d + n + 2) (x := T (52 + 3 * P k)) hA1.1 w.1 hs1 hbT
          have g1 : zev (d + n + 5) 28 [.inr (.inr (3, 0)), .inl (iI b), .inl (iI (T (52 + 3 * P k)))] (zwI σ 0 37 k (iI b)) = _ := g1
          have hA2 : cA 3 T τ := cA_c hA1 (fun k a _ _ _ => zFr_f g2 (fun i => by omega)) (g2.1 _ _ _ (by omega))
          have wW : wA (aSit V (P k) b) := aSit_w wV hPV (by omega)
          have eab : ∀ u, aAbI V b u = aAbI T b u := fun u => aAbI_c (fun c hc => hT _ (fun p => by omega)) w.1 (by omega)
          have hs2 : cS 3 T (aSp (aSit V (P k) b)) τ := cS_c g3 rfl fun u hu => by
            rw [aSp_sit0 wV hPV (hl k (by omega) (by omega)) hb9 u (by rw [v0]; exact hu)]
            unfold aLd
            rw [eab, vw]
          have hTW : ∀ i, (∀ p, i ≠ 54 + 3 * p) → aSit V (P k) b i = T i := fun i hi => by rw [aSit_n (hi (P k))]; exact hT i hi
          have e29 : zev (d + n + 5) 29 [.inr (.inr (3, 0))] τ = _ := zc29v (d := d + n + 2) w wW (fun i hi => hTW i (fun p => by omega)) hA2 hs2
          have fr : zFr (WSc k) σ τ := zFr_tt (zFr_w (by omega)) (zFr_i g2 fun _ _ _ q => by omega)
          have fin : ∀ υ : zM, cS 3 T (aSp (aSit V (P k) b)) υ → cA 3 T υ → ∃ τ, zev (d + n + 5) 28 [.inr (.inr (3, 0)), .inl (iI b), .inl (iI (-(T (52 + 3 * P k))))] υ = some (0, 0, τ) ∧ zFr (Wk 3 22) υ τ ∧ cS 3 T (aSp V) τ := by
            intro υ hs hA
            obtain ⟨τ, y1, y2, y3⟩ := zc28n (d := d + n + 2) (x := -(T (52 + 3 * P k))) hA.1 w.1 hs hbT
            refine ⟨τ, y1, y2, cS_c y3 rfl fun u hu => ?_⟩
            unfold aLd
            rw [aSp_sit0 wV hPV (hl k (by omega) (by omega)) hb9 u (by rw [v0]; exact hu)]
            unfold aLd
            rw [eab, vw]
            cases aAbI T b u
            · rw [cond_false, cond_false]; omega
            · rw [cond_true, cond_true]; omega
          simp only [hg4, hN, g1, zbs, e29, zCk, iI_neg']
          cases q1 : aCk (aSit V (P k) b)
          case true =>
            have en : aSf P n (k + 1) (aSit V (P k) b) = none := aSf_ck inj n (k + 1) (by omega) wW (fun j h1 h2 => by
              have := inj k j (by omega) h2
              rw [aSit_n (by omega), aSit_o (by omega), v2]
              exact ⟨hP j h2, hl j (by omega) h2⟩) q1
            obtain ⟨τ2, y1, y2, y3⟩ := fin τ hs2 hA2
            rw [cond_true, en, y1]
            simp only [zbs]
            have fr2 : zFr (WSc k) σ τ2 := zFr_tt fr (zFr_i y2 fun _ _ _ q => by omega)
            obtain ⟨υ, x1, x2, x3, x4⟩ := ih (b + 1) τ2 (by omega) (cA_c hA2 (fun k a _ _ _ => zFr_f y2 (fun i => by omega)) (y2.1 _ _ _ (by omega))) y3 ((fr2.1 _ _ _ (by omega)).trans h35) (fun i hi => (fr2.1 _ _ _ (by omega)).trans (h36 i hi))
            exact ⟨υ, x1, zFr_tt fr2 x2, x3, x4⟩
          case false =>
            obtain ⟨τ2, c1, c2, c3, c4⟩ := zc70 hL inj w hP n (k + 1) d (aSit V (P k) b) τ (by omega) wW hTW (fun j h1 h2 => by
              have := inj k j (by omega) h2
              rw [aSit_o (by omega)]
              exact hl j (by omega) h2) q1 hA2 hs2 ((fr.1 _ _ _ (by omega)).trans h35) (fun i hi => (fr.1 _ _ _ (by omega)).trans (h36 i hi))
            have fr2 : zFr (WSc k) σ τ2 := zFr_tt fr (zFr_i c2 fun _ _ _ q => by omega)
            have hA3 : cA 3 T τ2 := cA_c hA2 (fun k a _ _ _ => zFr_f c2 (fun i => by omega)) (c2.1 _ _ _ (by omega))
            rw [cond_false, c1]
            simp only [zbs, zBi]
            cases q2 : aSf P n (k + 1) (aSit V (P k) b) with
            | none =>
              obtain ⟨τ3, y1, y2, y3⟩ := fin τ2 (c3 q2) hA3
              have fr3 : zFr (WSc k) σ τ3 := zFr_tt fr2 (zFr_i y2 fun _ _ _ q => by omega)
              show ∃ τ_1, (bif false then _ else _) = _ ∧ _
              rw [cond_false, y1]
              simp only [zbs]
              obtain ⟨υ, x1, x2, x3, x4⟩ := ih (b + 1) τ3 (by omega) (cA_c hA3 (fun k a _ _ _ => zFr_f y2 (fun i => by omega)) (y2.1 _ _ _ (by omega))) y3 ((fr3.1 _ _ _ (by omega)).trans h35) (fun i hi => (fr3.1 _ _ _ (by omega)).trans (h36 i hi))
              exact ⟨υ, x1, zFr_tt fr3 x2, x3, x4⟩
            | some l =>
              show ∃ τ_1, (bif true then _ else _) = _ ∧ _
              rw [cond_true, zgd_t (by decide)]
              refine ⟨τ2, rfl, fr2, (fun h => by cases h), fun l' h => ?_⟩
              have h : some (b :: l) = some l' := h
              cases h
              intro i hi
              cases i with
              | zero =>
                rw [c2.1 _ _ _ (by omega), g2.1 _ _ _ (by omega), Nat.add_zero, zfs]; rfl
              | succ i =>
                have := c4 l q2 i (by omega)
                rw [show k + 1 + i = k + (i + 1) by omega] at this
                exact this
    have hP3 := hA.2.2.2.1.2 (P k) hPk
    rw [show d + (n + 1) + 5 = d + n + 5 + 1 by omega, ez_70, h35]
    simp only [iI_lt (show zrn (k : Int) by omega) (show zrn (L : Int) by omega), hg4, hN, h36 k (by omega), hgP, hNP, hP3.1]
    rw [if_pos (by omega)]
    exact key ((V 0).toNat) 0 σ (by omega) hA hs h35 h36
def aPm (z : Int) : Nat → Nat → Nat
  | 0 => fun _ => 0
  | n + 1 => bif bt (iI z) n then (fun i => if i = aCn z n then n else aPm z n i) else aPm z n
theorem aPm_b {z : Int} : ∀ (n i : Nat), i < aCn z n → aPm z n i < n
  | 0, _, h => by
    have h : _ < 0 := h
    omega
  | n + 1, i, h => by
    have ih := aPm_b (z := z) n i
    have h : i < aCn z n + (bif bt (iI z) n then 1 else 0) := h
    show (bif bt (iI z) n then (fun i => if i = aCn z n then n else aPm z n i) else aPm z n) i < n + 1
    cases q : bt (iI z) n
    · rw [q, cond_false] at h
      rw [cond_false]
      have := ih (by omega)
      omega
    · rw [q, cond_true] at h
      rw [cond_true]
      show (if i = aCn z n then n else aPm z n i) < n + 1
      split
      · omega
      · have := ih (by omega)
        omega
theorem aPm_i {z : Int} : ∀ (n i j : Nat), i < j → j < aCn z n → aPm z n i < aPm z n j
  | 0, _, _, _, h => by
    have h : _ < 0 := h
    omega
  | n + 1, i, j, hi, h => by
    have ih := aPm_i (z := z) n i j hi
    have h : j < aCn z n + (bif bt (iI z) n then 1 else 0) := h
    show (bif bt (iI z) n then (fun i => if i = aCn z n then n else aPm z n i) else aPm z n) i < (bif bt (iI z) n then (fun i => if i = aCn z n then n else aPm z n i) else aPm z n) j
    cases q : bt (iI z) n
    · rw [q, cond_false] at h
      rw [cond_false]
      exact ih (by omega)
    · rw [q, cond_true] at h
      rw [cond_true]
      show (if i = aCn z n then n else aPm z n i) < (if j = aCn z n then n else aPm z n j)
      rw [if_neg (by omega)]
      by_cases q2 : j = aCn z n
      · rw [if_pos q2]
        exact aPm_b n i (by omega)
      · rw [if_neg q2]
        exact ih (by omega)
def aLf (S : zS) (z : Int) : Nat → zS
  | 0 => S
  | n + 1 => bif bt (iI z) n then aSit (aLf S z n) n (-1) else aLf S z n
