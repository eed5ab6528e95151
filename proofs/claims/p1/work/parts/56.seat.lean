/-! seat, seatAll -/
theorem aCn_m {z : Int} : ∀ (n k : Nat), k ≤ n → aCn z k ≤ aCn z n
  | 0, k, h => by
    rw [show k = 0 by omega]; exact Nat.le_refl _
  | n + 1, k, h => by
    have e : aCn z (n + 1) = aCn z n + bif bt (iI z) n then 1 else 0 := rfl
    by_cases q : k = n + 1
    · rw [q]; exact Nat.le_refl _
    · have := aCn_m (z := z) n k (by omega)
      omega
theorem aLf_w {S : zS} {z : Int} (w : wA S) : ∀ n, n ≤ (S 2).toNat → wA (aLf S z n) ∧ aLf S z n 2 = S 2 ∧ aLf S z n 0 = S 0 ∧ ∀ i, (∀ p, i ≠ 54 + 3 * p) → aLf S z n i = S i
  | 0, _ => ⟨w, rfl, rfl, fun _ _ => rfl⟩
  | n + 1, hn => by
    obtain ⟨h1, h2, h3, h4⟩ := aLf_w (z := z) w n (by omega)
    have b0 := w.1.1
    show wA (bif bt (iI z) n then aSit (aLf S z n) n (-1) else aLf S z n) ∧ (bif bt (iI z) n then aSit (aLf S z n) n (-1) else aLf S z n) 2 = S 2 ∧ (bif bt (iI z) n then aSit (aLf S z n) n (-1) else aLf S z n) 0 = S 0 ∧ ∀ i, (∀ p, i ≠ 54 + 3 * p) → (bif bt (iI z) n then aSit (aLf S z n) n (-1) else aLf S z n) i = S i
    cases bt (iI z) n
    · exact ⟨h1, h2, h3, h4⟩
    · rw [cond_true]
      exact ⟨aSit_w h1 (by rw [h2]; omega) (by omega), by rw [aSit_n (by omega)]; exact h2, by rw [aSit_n (by omega)]; exact h3, fun i hi => by rw [aSit_n (hi n)]; exact h4 i hi⟩
theorem aPm_s {z : Int} {n j : Nat} (h : j < aCn z n) : aPm z (n + 1) j = aPm z n j := by
  show (bif bt (iI z) n then (fun i => if i = aCn z n then n else aPm z n i) else aPm z n) j = _
  cases bt (iI z) n
  · rfl
  · rw [cond_true]; exact if_neg (by omega)
theorem aLf_p {S : zS} {z : Int} : ∀ n, aGr (aPm z n) (aCn z n) 0 S (aLf S z n) ∧ ∀ j, j < aCn z n → aSeat (aLf S z n) (aPm z n j) < 0
  | 0 => ⟨fun _ _ => rfl, fun j h => by have h : j < 0 := h; omega⟩
  | n + 1 => by
    obtain ⟨h1, h2⟩ := aLf_p (S := S) (z := z) n
    have e : aCn z (n + 1) = aCn z n + bif bt (iI z) n then 1 else 0 := rfl
    have e2 : aLf S z (n + 1) = bif bt (iI z) n then aSit (aLf S z n) n (-1) else aLf S z n := rfl
    have e3 : aPm z (n + 1) = bif bt (iI z) n then (fun i => if i = aCn z n then n else aPm z n i) else aPm z n := rfl
    cases q : bt (iI z) n
    · rw [q, cond_false] at e e2 e3
      rw [e, e2, e3]
      exact ⟨h1, h2⟩
    · rw [q, cond_true] at e e2 e3
      rw [e, e2, e3]
      refine ⟨fun i hi => ?_, fun j hj => ?_⟩
      · have h0 := hi (aCn z n) (by omega) (by omega)
        simp only [if_true] at h0
        rw [aSit_n h0]
        refine h1 i (fun j g1 g2 => ?_)
        have := hi j g1 (by omega)
        simp only [if_neg (show ¬ j = aCn z n by omega)] at this
        exact this
      · show aSeat (aSit (aLf S z n) n (-1)) (if j = aCn z n then n else aPm z n j) < 0
        by_cases q2 : j = aCn z n
        · rw [if_pos q2, aSit_s]; omega
        · rw [if_neg q2]
          have := aPm_b (z := z) n j (by omega)
          rw [aSit_o (by omega)]
          exact h2 j (by omega)
/-- the seats found -/
def aFs (S : zS) (z : Int) : Option (List Nat) := aSf (aPm z (S 2).toNat) (aCn z (S 2).toNat) 0 S
theorem zc69 {S : zS} {z : Int} {d : Nat} {σ : zM} (w : wA S) (hA : cA 0 S σ) (hz : aCn z (S 2).toNat ≤ 4) : ∃ τ, zev (d + 11) 69 [.inr (.inr (0, 35)), .inr (.inr (0, 0)), .inl (iI z)] σ = some (zB (aFs S z).isSome, 0, τ) ∧ zFr WC σ τ ∧ τ.1 0 35 0 = iI (aCn z (S 2).toNat : Nat) ∧ (∀ i, i < aCn z (S 2).toNat → τ.1 0 36 i = iI (aPm z (S 2).toNat i : Nat)) ∧ ∀ l, aFs S z = some l → ∀ i, i < aCn z (S 2).toNat → τ.1 0 37 i = iI (l.getD i 0 : Nat) := by
  have p0 := w.2.2.1.1
  have p1 := w.2.2.1.2.1
  obtain ⟨τ, g1, g2, g3⟩ := zc25 (d := d + 5) (g := 3) (h := 0) (by decide) w hA
  have g1 : zev (d + 10) 25 [.inr (.inr (3, 0)), .inr (.inr (0, 0))] σ = _ := g1
  have key : ∀ (m k : Nat) (σ : zM) (d1 : Option zV), k + m = (S 2).toNat → cA 3 (aLf S z k) σ → σ.1 0 35 0 = iI (aCn z k : Nat) → (∀ i, i < aCn z k → σ.1 0 36 i = iI (aPm z k i : Nat)) → ∃ τ, zrun (zev (d + 10)) zT_69 15 [some (.inr (.inr (0, 35))), d1, some (.inl (iI z)), some (.inl (iI k))] [] σ = some (zB (aFs S z).isSome, 0, τ) ∧ zFr WC σ τ ∧ τ.1 0 35 0 = iI (aCn z (S 2).toNat : Nat) ∧ (∀ i, i < aCn z (S 2).toNat → τ.1 0 36 i = iI (aPm z (S 2).toNat i : Nat)) ∧ ∀ l, aFs S z = some l → ∀ i, i < aCn z (S 2).toNat → τ.1 0 37 i = iI (l.getD i 0 : Nat) := by
    intro m
    induction m with
    | zero =>
      intro k σ d1 hk hA h35 h36
      obtain rfl : k = (S 2).toNat := by omega
      obtain ⟨wT, t2, t0, tg⟩ := aLf_w (z := z) w (S 2).toNat (Nat.le_refl _)
      obtain ⟨gr, lf⟩ := aLf_p (S := S) (z := z) (S 2).toNat
      have inj : ∀ i j, i < j → j < aCn z (S 2).toNat → aPm z (S 2).toNat i < aPm z (S 2).toNat j := fun i j => aPm_i (S 2).toNat i j
      have hP : ∀ j, j < aCn z (S 2).toNat → aPm z (S 2).toNat j < (aLf S z (S 2).toNat 2).toNat := fun j hj => by rw [t2]; exact aPm_b _ j hj
      have ef : aSf (aPm z (S 2).toNat) (aCn z (S 2).toNat) 0 (aLf S z (S 2).toNat) = aFs S z := aSf_c _ 0 w.1.2.1 gr
      obtain ⟨τ2, f1, f2, f3, f4, f5⟩ := zc27k (d := d + 5) hA wT
      have f1 : zev (d + 10) 27 [.inr (.inr (3, 0))] σ = _ := f1
      have f5 : zev (d + 10) 29 [.inr (.inr (3, 0))] τ2 = _ := f5
      have fr : zFr WC σ τ2 := zFr_i f2 fun _ _ _ q => by omega
      have t35 : τ2.1 0 35 0 = iI (aCn z (S 2).toNat : Nat) := (f2.1 _ _ _ (by omega)).trans h35
      have t36 : ∀ i, i < aCn z (S 2).toNat → τ2.1 0 36 i = iI (aPm z (S 2).toNat i : Nat) := fun i hi => (f2.1 _ _ _ (by omega)).trans (h36 i hi)
      rw [ez_69_15, hA.2.2.2.1.1, t2, if_neg (by rw [iI_lt (by omega) (by omega)]; omega)]
      simp only [f1, f5, zbs, zCk]
      cases q : aCk (aLf S z (S 2).toNat)
      · obtain ⟨υ, c1, c2, c3, c4⟩ := zc70 hz inj wT hP (aCn z (S 2).toNat) 0 (d + 5 - aCn z (S 2).toNat) (aLf S z (S 2).toNat) τ2 (by omega) wT (fun _ _ => rfl) (fun j _ h2 => lf j h2) q f3 f4 t35 t36
        rw [show d + 5 - aCn z (S 2).toNat + aCn z (S 2).toNat + 5 = d + 10 by omega, ef] at c1
        have c1 : zev (d + 10) 70 [.inr (.inr (0, 35)), .inl 0] τ2 = _ := c1
        rw [cond_false, c1]
        simp only [zbs, zBi]
        refine ⟨υ, ?_, zFr_tt fr (zFr_i c2 fun _ _ _ q => by omega), (c2.1 _ _ _ (by omega)).trans t35, fun i hi => (c2.1 _ _ _ (by omega)).trans (t36 i hi), fun l h i hi => ?_⟩
        · cases (aFs S z).isSome
          · exact zgd_t (by decide)
          · exact zgd_t (by decide)
        · have := c4 l (by rw [ef]; exact h) i hi
          rwa [Nat.zero_add] at this
      · have en : aFs S z = none := by
          rw [← ef]
          exact aSf_ck inj _ 0 (by omega) wT (fun j _ h2 => ⟨hP j h2, lf j h2⟩) q
        rw [cond_true, en, zgd_t (by decide)]
        exact ⟨τ2, rfl, fr, t35, t36, fun l h => by cases h⟩
    | succ m ih =>
      intro k σ d1 hk hA h35 h36
      obtain ⟨wT, t2, t0, tg⟩ := aLf_w (z := z) w k (by omega)
      have e : aCn z (k + 1) = aCn z k + bif bt (iI z) k then 1 else 0 := rfl
      have e2 : aLf S z (k + 1) = bif bt (iI z) k then aSit (aLf S z k) k (-1) else aLf S z k := rfl
      have e3 : aPm z (k + 1) = bif bt (iI z) k then (fun i => if i = aCn z k then k else aPm z k i) else aPm z k := rfl
      have mo := aCn_m (z := z) (S 2).toNat (k + 1) (by omega)
      rw [ez_69_15, hA.2.2.2.1.1, t2, if_pos (by rw [iI_lt (by omega) (by omega)]; omega), zc145 (d := d + 9) (show k < 32 by omega)]
      simp only [zbs, zBi, hki1]
      cases q : bt (iI z) k
      · rw [q, cond_false] at e e2 e3
        rw [cond_false]
        exact ih (k + 1) σ none (by omega) (by rw [e2]; exact hA) (by rw [e]; exact h35) (fun i hi => by rw [e3]; rw [e] at hi; exact h36 i hi)
      · rw [q, cond_true] at e e2 e3
        have e4 : (iI ((aCn z k : Nat) : Int) < 4) = (((aCn z k : Nat) : Int) < 4) := iI_lt (b := 4) (by omega) (by decide)
        rw [cond_true, h35]
        simp only [e4]
        rw [if_pos (by omega), zgd_t (iI_ink (z := aCn z k) (k := aCn z k) rfl (by omega) (by decide)), zgd_t (iI_ink (z := k) (k := k) rfl (show k < 8 by omega) (by decide)), iI_Nn (show aCn z k ≤ 2147483647 by omega), iI_Nn (show k ≤ 2147483647 by omega), zfe (by omega), h35, hki1]
        have hA4 : cA 3 (aLf S z k) (zwI (zwI σ 0 36 (aCn z k) (iI k)) 0 35 0 (iI ((aCn z k + 1 : Nat) : Int))) := cA_c hA (fun k a _ _ _ => by rw [zfn (by omega), zfn (by omega)]) (by rw [zfe (by omega), zfe (by omega)])
        have hA5 : cA 3 (aLf S z (k + 1)) (zwI (zwI (zwI σ 0 36 (aCn z k) (iI k)) 0 35 0 (iI ((aCn z k + 1 : Nat) : Int))) 3 18 k (-9)) := by
          rw [e2]; exact cA_sit (p := k) (z := -1) hA4 wT (by omega)
        obtain ⟨υ, x1, x2, x3⟩ := ih (k + 1) _ none (by omega) hA5 (by rw [e, zfe (by omega), zfs]) (fun i hi => by
          rw [e] at hi
          rw [e3]
          show _ = iI ((if i = aCn z k then k else aPm z k i : Nat) : Int)
          by_cases q2 : i = aCn z k
          · subst q2; rw [if_pos rfl, zfe (by omega), zfe (by omega), zfs]
          · rw [if_neg q2, zfe (by omega), zfe (by omega), zfe (by omega)]; exact h36 i (by omega))
        exact ⟨υ, x1, zFr_tt (zFr_tt (zFr_tt (zFr_w (by omega)) (zFr_w (by omega))) (zFr_w (by omega))) x2, x3⟩
  obtain ⟨υ, x1, x2, x3⟩ := key (S 2).toNat 0 (zwI τ 0 35 0 0) (some (.inr (.inr (0, 0)))) (by omega) (cA_c g3 (fun k a _ _ _ => zfn (by omega)) (zfe (by omega))) (by rw [zfs]; rfl) (fun i hi => by have hi : i < 0 := hi; omega)
  rw [ez_69]
  simp only [g1, zbs]
  exact ⟨υ, x1, zFr_tt (zFr_tt (zFr_i g2 fun _ _ _ q => by omega) (zFr_w (by omega))) x2, x3⟩
theorem zm207 {S : zS} {z : Int} {d : Nat} {σ : zM} (w : wA S) (hS : mS 61 S σ) (hz : aCn z (S 2).toNat ≤ 4) : ∃ τ, zev (d + 14) 207 [.inr (.inr (0, 60)), .inl (iI z)] σ = some (zB (aFs S z).isSome, 0, τ) ∧ zFr WM σ τ ∧ mS 61 S τ ∧ τ.1 0 60 11 = iI (aCn z (S 2).toNat : Nat) ∧ (∀ i, i < aCn z (S 2).toNat → τ.1 0 68 i = iI (aPm z (S 2).toNat i : Nat)) ∧ ∀ l, aFs S z = some l → ∀ i, i < aCn z (S 2).toNat → τ.1 0 70 i = iI (l.getD i 0 : Nat) := by
  have p0 := w.2.2.1.1
  have p1 := w.2.2.1.2.1
  have inj : ∀ i j, i < j → j < aCn z (S 2).toNat → aPm z (S 2).toNat i < aPm z (S 2).toNat j := fun i j => aPm_i (S 2).toNat i j
  have hP : ∀ j, j < aCn z (S 2).toNat → aPm z (S 2).toNat j < (S 2).toNat := fun j hj => aPm_b _ j hj
  have back : ∀ (m k : Nat) (T : zS) (σ : zM) (d1 : Option zV) (v : Bool), k + m = aCn z (S 2).toNat → aGr (aPm z (S 2).toNat) m k S T → mS 61 T σ → σ.1 0 60 11 = iI (aCn z (S 2).toNat : Nat) → (∀ i, i < aCn z (S 2).toNat → σ.1 0 68 i = iI (aPm z (S 2).toNat i : Nat) ∧ σ.1 0 69 i = iI (aSeat S (aPm z (S 2).toNat i))) → ∃ τ, zrun (zev (d + 13)) zT_207 77 [some (.inr (.inr (0, 60))), d1, some (.inl (zB v)), some (.inl (iI k))] [] σ = some (zB v, 0, τ) ∧ zFr (fun g k _ => g = 0 ∧ k = 61) σ τ ∧ mS 61 S τ := by
    intro m
    induction m with
    | zero =>
      intro k T σ d1 v hk gr hS h11 h6
      have : T = S := funext fun i => gr i (fun j a b => by omega)
      rw [this] at hS
      rw [ez_207_77, h11, if_neg (by rw [iI_lt (by omega) (by omega)]; omega)]
      refine ⟨σ, ?_, zFr_r σ, hS⟩
      cases v
      · exact zgd_t (by decide)
      · exact zgd_t (by decide)
    | succ m ih =>
      intro k T σ d1 v hk gr hS h11 h6
      have hPk := hP k (by omega)
      have h6k := h6 k (by omega)
      have e180 : zev (d + 13) 180 [.inr (.inr (0, 60)), .inl (iI (aPm z (S 2).toNat k : Nat)), .inl (iI (aSeat S (aPm z (S 2).toNat k)))] σ = some (0, 0, zwI σ 0 61 (54 + 3 * aPm z (S 2).toNat k) (iI (aSeat S (aPm z (S 2).toNat k) + 1))) := zm180 (d := d + 11) (by omega)
      rw [ez_207_77, h11, if_pos (by rw [iI_lt (by omega) (by omega)]; omega), zgd_t (iI_ink (z := k) (k := k) rfl (show k < 8 by omega) (by decide)), zgd_t (iI_ink (z := k) (k := k) rfl (show k < 8 by omega) (by decide)), iI_Nn (show k ≤ 2147483647 by omega), h6k.1, h6k.2, e180]
      simp only [zbs, hki1]
      have g2 : aGr (aPm z (S 2).toNat) m (k + 1) S (aSit T (aPm z (S 2).toNat k) (aSeat S (aPm z (S 2).toNat k))) := fun i hi => by
        by_cases q : i = 54 + 3 * aPm z (S 2).toNat k
        · subst q
          unfold aSit
          rw [zup_s]
          unfold aSeat
          omega
        · rw [aSit_n q]
          refine gr i (fun j a b => ?_)
          by_cases q2 : j = k
          · subst q2; exact q
          · exact hi j (by omega) (by omega)
      obtain ⟨υ, x1, x2, x3⟩ := ih (k + 1) _ _ none v (by omega) g2 (mS_up hS) (by rw [zfe (by omega)]; exact h11) (fun i hi => by rw [zfe (by omega), zfe (by omega)]; exact h6 i hi)
      exact ⟨υ, x1, zFr_tt (zFr_w (by omega)) x2, x3⟩
  have key : ∀ (m k : Nat) (σ : zM) (d3 : Option zV), k + m = (S 2).toNat → mS 61 S σ → σ.1 0 60 11 = iI (aCn z k : Nat) → (∀ i, i < aCn z k → σ.1 0 68 i = iI (aPm z k i : Nat) ∧ σ.1 0 69 i = iI (aSeat S (aPm z k i))) → ∃ τ, zrun (zev (d + 13)) zT_207 7 [some (.inr (.inr (0, 60))), some (.inl (iI z)), some (.inl (iI k)), d3] [] σ = some (zB (aFs S z).isSome, 0, τ) ∧ zFr WM σ τ ∧ mS 61 S τ ∧ τ.1 0 60 11 = iI (aCn z (S 2).toNat : Nat) ∧ (∀ i, i < aCn z (S 2).toNat → τ.1 0 68 i = iI (aPm z (S 2).toNat i : Nat)) ∧ ∀ l, aFs S z = some l → ∀ i, i < aCn z (S 2).toNat → τ.1 0 70 i = iI (l.getD i 0 : Nat) := by
    intro m
    induction m with
    | zero =>
      intro k σ d3 hk hS h11 h6
      obtain rfl : k = (S 2).toNat := by omega
      obtain ⟨τ, g1, g2, g3⟩ := zm166 (d := d + 7) hS w.1 w.2.1 w.2.2.2.2.1
      have g1 : zev (d + 13) 166 [.inr (.inr (0, 60))] σ = _ := g1
      have hS2 : mS 61 S τ := mS_f hS (zFr_f g2 (fun i => by omega))
      obtain ⟨υ, U, c1, c2, c3, c4, c5, c6⟩ := zm206 hz hP (aCn z (S 2).toNat) 0 (d + 4 - aCn z (S 2).toNat) S τ (by omega) w rfl hS2 g3 ((g2.1 _ _ _ (by omega)).trans h11) (fun i hi => (g2.1 _ _ _ (by omega)).trans (h6 i hi).1)
      rw [show d + 4 - aCn z (S 2).toNat + aCn z (S 2).toNat + 9 = d + 13 by omega] at c1
      have c1 : zev (d + 13) 206 [.inr (.inr (0, 60)), .inl 0] τ = _ := c1
      obtain ⟨ω, y1, y2, y3⟩ := back (aCn z (S 2).toNat) 0 U υ (some (.inl (iI z))) (aFs S z).isSome (by omega) c5 c3 ((c2.1 _ _ _ (by omega)).trans ((g2.1 _ _ _ (by omega)).trans h11)) (fun i hi => ⟨(c2.1 _ _ _ (by omega)).trans ((g2.1 _ _ _ (by omega)).trans (h6 i hi).1), (c2.1 _ _ _ (by omega)).trans ((g2.1 _ _ _ (by omega)).trans (h6 i hi).2)⟩)
      rw [ez_207_7, hS 2 (by decide), if_neg (by rw [iI_lt (by omega) (by omega)]; omega), g1]
      simp only [zbs, c1]
      refine ⟨ω, y1, zFr_tt (zFr_tt (zFr_i g2 fun _ _ _ q => by omega) (zFr_i c2 fun _ _ _ q => by omega)) (zFr_i y2 fun _ _ _ q => by omega), y3, (y2.1 _ _ _ (by omega)).trans ((c2.1 _ _ _ (by omega)).trans ((g2.1 _ _ _ (by omega)).trans h11)), fun i hi => (y2.1 _ _ _ (by omega)).trans ((c2.1 _ _ _ (by omega)).trans ((g2.1 _ _ _ (by omega)).trans (h6 i hi).1)), fun l h i hi => ?_⟩
      have := c6 l h i hi
      rw [Nat.zero_add] at this
      exact (y2.1 _ _ _ (by omega)).trans this
    | succ m ih =>
      intro k σ d3 hk hS h11 h6
      have e : aCn z (k + 1) = aCn z k + bif bt (iI z) k then 1 else 0 := rfl
      have e3 : aPm z (k + 1) = bif bt (iI z) k then (fun i => if i = aCn z k then k else aPm z k i) else aPm z k := rfl
      have mo := aCn_m (z := z) (S 2).toNat (k + 1) (by omega)
      rw [ez_207_7, hS 2 (by decide), if_pos (by rw [iI_lt (by omega) (by omega)]; omega), zm152 (d := d + 12) (show k < 32 by omega)]
      simp only [zbs, zBi, hki1]
      cases q : bt (iI z) k
      · rw [q, cond_false] at e e3
        rw [cond_false]
        exact ih (k + 1) σ none (by omega) hS (by rw [e]; exact h11) (fun i hi => by rw [e3]; rw [e] at hi; exact h6 i hi)
      · rw [q, cond_true] at e e3
        have hgL : ∀ {y : zR}, zgd (zin (iI (aCn z k : Nat)) 8) y = y := fun {y} => zgd_t (iI_ink (z := aCn z k) (k := aCn z k) rfl (by omega) (by decide))
        have hNL : Int32.toNatClampNeg (iI (aCn z k : Nat)) = aCn z k := iI_Nn (by omega)
        have e179 : ∀ v, zev (d + 13) 179 [.inr (.inr (0, 60)), .inl (iI k)] (zwI σ 0 68 (aCn z k) v) = some (iI (aSeat S k), 0, zwI σ 0 68 (aCn z k) v) := fun v => zm179 (d := d + 10) (mS_f hS (zfn (by omega))) (by omega)
        rw [cond_true, h11, hgL, hNL, e179]
        simp only [zbs, zfe (show ¬ (0 = 0 ∧ 60 = 68 ∧ 11 = aCn z k) by omega), zfe (show ¬ (0 = 0 ∧ 60 = 69 ∧ 11 = aCn z k) by omega), h11, hgL, hNL, hki1]
        obtain ⟨υ, x1, x2, x3⟩ := ih (k + 1) (zwI (zwI (zwI σ 0 68 (aCn z k) (iI k)) 0 69 (aCn z k) (iI (aSeat S k))) 0 60 11 (iI ((aCn z k + 1 : Nat) : Int))) none (by omega) (mS_f hS (by rw [zfn (by omega), zfn (by omega), zfn (by omega)])) (by rw [e, zfs]) (fun i hi => by
          rw [e] at hi
          rw [e3]
          show _ = iI ((if i = aCn z k then k else aPm z k i : Nat) : Int) ∧ _ = iI (aSeat S (if i = aCn z k then k else aPm z k i))
          by_cases q2 : i = aCn z k
          · subst q2; rw [if_pos rfl, zfe (by omega), zfe (by omega), zfs, zfe (by omega), zfs]; exact ⟨rfl, rfl⟩
          · rw [if_neg q2, zfe (by omega), zfe (by omega), zfe (by omega), zfe (by omega), zfe (by omega), zfe (by omega)]; exact h6 i (by omega))
        exact ⟨υ, x1, zFr_tt (zFr_tt (zFr_tt (zFr_w (by omega)) (zFr_w (by omega))) (zFr_w (by omega))) x2, x3⟩
  obtain ⟨υ, x1, x2, x3⟩ := key (S 2).toNat 0 (zwI σ 0 60 11 0) none (by omega) (mS_f hS (zfn (by omega))) (by rw [zfs]; rfl) (fun i hi => by have hi : i < 0 := hi; omega)
  rw [ez_207]
  exact ⟨υ, x1, zFr_tt (zFr_w (by omega)) x2, x3⟩
theorem zx_110 {x : zXx} (w : WX x) (z q : Int) (hz : zrn z) (hq : zrn q) : zCall 110 208 [.inl (iI z), .inl (iI q)] x := by
  have c1 : ∀ {σ : zM}, zev 63 141 [.inl (iI q), .inl 0, .inl 3] σ = some (zB (decide (0 ≤ q ∧ q ≤ 3)), 0, σ) := zc141 (l := 0) (h := 3) hq (by decide) (by decide)
  have m1 : ∀ {σ : zM}, zev 63 149 [.inr (.inl (Int32.toInt64 (iI q))), .inr (.inl 0), .inr (.inl 3)] σ = some (zB (decide (0 ≤ q ∧ q ≤ 3)), 0, σ) := zm149k (l := 0) (h := 3) hq (by decide) (by decide)
  have wP := w.1.2.2.1
  cases qp : aPy z (x.1 2).toNat
  · refine zCq (-1) w (fun σ h => ?_) (fun σ h => ?_)
    · rw [ez_110]
      simp only [zc114 (d := 61) h.1 wP hz, qp, zbs, zBi, cond_false]
      exact ⟨σ, rfl, zFr_r σ⟩
    · rw [ez_208]
      simp only [zm205 (d := 61) h.1 wP hz, qp, zbs, zBi, cond_false]
      exact ⟨σ, rfl, zFr_r σ, h.1⟩
  by_cases q1 : 0 ≤ q ∧ q ≤ 3
  case neg =>
    refine zCq (-1) w (fun σ h => ?_) (fun σ h => ?_)
    · rw [ez_110]
      simp only [zc114 (d := 61) h.1 wP hz, qp, c1, decide_eq_false q1, zbs, zBi, cond_false, cond_true]
      exact ⟨σ, rfl, zFr_r σ⟩
    · rw [ez_208]
      simp only [zm205 (d := 61) h.1 wP hz, qp, m1, decide_eq_false q1, zbs, zBi, cond_false, cond_true]
      exact ⟨σ, rfl, zFr_r σ, h.1⟩
  have h4 : aCn z (x.1 2).toNat ≤ 4 := (of_decide_eq_true qp).2
  obtain ⟨j, rfl⟩ := zint q1.1
  have hj : j < 4 := by omega
  refine zCq (match aFs x.1 z with | none => -3 | some l => if j < aCn z (x.1 2).toNat then iI (l.getD j 0 : Nat) else -3) w (fun σ h => ?_) (fun σ h => ?_)
  · obtain ⟨τ, g1, g2, g3, g4, g5⟩ := zc69 (d := 52) (z := z) w.1 h.1 h4
    have g1 : zev 63 69 [.inr (.inr (0, 35)), .inr (.inr (0, 0)), .inl (iI z)] σ = _ := g1
    rw [ez_110]
    simp only [zc114 (d := 61) h.1 wP hz, qp, c1, decide_eq_true q1, zbs, zBi, cond_true, g1, g3, iI_lt (show zrn (j : Int) by omega) (show zrn ((aCn z (x.1 2).toNat : Nat) : Int) by omega), zgd_t (iI_ink (z := j) (k := j) rfl hj (by decide)), iI_Nn (show j ≤ 2147483647 by omega)]
    refine ⟨τ, ?_, g2⟩
    cases q2 : aFs x.1 z with
    | none => rfl
    | some l =>
      show (bif true then _ else _) = some (if j < aCn z (x.1 2).toNat then iI (l.getD j 0 : Nat) else -3, 0, τ)
      rw [cond_true]
      by_cases q3 : j < aCn z (x.1 2).toNat
      · rw [if_pos (by omega), if_pos q3, g5 l q2 j q3]
      · rw [if_neg (by omega), if_neg q3]
  · obtain ⟨τ, g1, g2, g3, g4, g5, g6⟩ := zm207 (d := 49) (z := z) w.1 h.1 h4
    have g1 : zev 63 207 [.inr (.inr (0, 60)), .inl (iI z)] σ = _ := g1
    rw [ez_208]
    simp only [zm205 (d := 61) h.1 wP hz, qp, m1, decide_eq_true q1, zbs, zBi, cond_true, g1, g4, iI_lt (show zrn (j : Int) by omega) (show zrn ((aCn z (x.1 2).toNat : Nat) : Int) by omega), zgd_t (iI_ink (z := j) (k := j) rfl (show j < 8 by omega) (by decide)), iI_Nn (show j ≤ 2147483647 by omega)]
    refine ⟨τ, ?_, g2, g3⟩
    cases q2 : aFs x.1 z with
    | none => rfl
    | some l =>
      show (bif true then _ else _) = some (if j < aCn z (x.1 2).toNat then iI (l.getD j 0 : Nat) else -3, 0, τ)
      rw [cond_true]
      by_cases q3 : j < aCn z (x.1 2).toNat
      · rw [if_pos (by omega), if_pos q3, g6 l q2 j q3]
      · rw [if_neg (by omega), if_neg q3]
theorem gDm : ∀ (l : List Nat) (j : Nat), j < l.length → l.getD j 0 ∈ l
  | [], j, h => absurd h (Nat.not_lt_zero j)
  | a :: l, 0, _ => List.mem_cons.mpr (Or.inl rfl)
  | a :: l, j + 1, h => List.mem_cons.mpr (Or.inr (gDm l j (Nat.lt_of_succ_lt_succ h)))
def aSq (S : zS) (P : Nat → Nat) (l : List Nat) : Nat → zS
  | 0 => S
  | k + 1 => aSit (aSq S P l k) (P k) (l.getD k 0 : Nat)
theorem aSq_w {S : zS} {P : Nat → Nat} {l : List Nat} {L : Nat} (w : wA S) (hP : ∀ j, j < L → P j < (S 2).toNat) (hl : ∀ j, j < L → l.getD j 0 < (S 0).toNat) : ∀ n, n ≤ L → wA (aSq S P l n) ∧ aSq S P l n 0 = S 0 ∧ aSq S P l n 2 = S 2
  | 0, _ => ⟨w, rfl, rfl⟩
  | n + 1, hn => by
    obtain ⟨h1, h2, h3⟩ := aSq_w w hP hl n (by omega)
    have := hP n (by omega)
    have := hl n (by omega)
    have b0 := w.1.1
    exact ⟨aSit_w h1 (by rw [h3]; omega) (by omega), by rw [show aSq S P l (n + 1) = aSit (aSq S P l n) (P n) (l.getD n 0 : Nat) from rfl, aSit_n (by omega)]; exact h2, by rw [show aSq S P l (n + 1) = aSit (aSq S P l n) (P n) (l.getD n 0 : Nat) from rfl, aSit_n (by omega)]; exact h3⟩
theorem zx_111 {x : zXx} (w : WX x) (z : Int) (hz : zrn z) : zCall 111 209 [.inl (iI z)] x := by
  have wP := w.1.2.2.1
  cases qp : aPy z (x.1 2).toNat
  · refine zCq (-1) w (fun σ h => ?_) (fun σ h => ?_)
    · rw [ez_111]
      simp only [zc114 (d := 61) h.1 wP hz, qp, zbs, zBi, cond_false]
      exact ⟨σ, rfl, zFr_r σ⟩
    · rw [ez_209]
      simp only [zm205 (d := 61) h.1 wP hz, qp, zbs, zBi, cond_false]
      exact ⟨σ, rfl, zFr_r σ, h.1⟩
  have h4 : aCn z (x.1 2).toNat ≤ 4 := (of_decide_eq_true qp).2
  have p0 := wP.1
  have p1 := wP.2.1
  cases q2 : aFs x.1 z with
  | none =>
    refine zCq (-3) w (fun σ h => ?_) (fun σ h => ?_)
    · obtain ⟨τ, g1, g2, -⟩ := zc69 (d := 52) (z := z) w.1 h.1 h4
      have g1 : zev 63 69 [.inr (.inr (0, 35)), .inr (.inr (0, 0)), .inl (iI z)] σ = _ := g1
      rw [q2] at g1
      rw [ez_111]
      simp only [zc114 (d := 61) h.1 wP hz, qp, zbs, zBi, cond_true, g1, Option.isSome, cond_false]
      exact ⟨τ, rfl, g2⟩
    · obtain ⟨τ, g1, g2, g3, -⟩ := zm207 (d := 49) (z := z) w.1 h.1 h4
      have g1 : zev 63 207 [.inr (.inr (0, 60)), .inl (iI z)] σ = _ := g1
      rw [q2] at g1
      rw [ez_209]
      simp only [zm205 (d := 61) h.1 wP hz, qp, zbs, zBi, cond_true, g1, Option.isSome, cond_false]
      exact ⟨τ, rfl, g2, g3⟩
  | some l =>
    have hl := aSf_l _ 0 l q2
    have hP : ∀ j, j < aCn z (x.1 2).toNat → aPm z (x.1 2).toNat j < (x.1 2).toNat := fun j hj => aPm_b _ j hj
    have hg : ∀ j, j < aCn z (x.1 2).toNat → l.getD j 0 < (x.1 0).toNat := fun j hj => by
      have hj' : j < l.length := by rw [hl.1]; exact hj
      refine hl.2 _ ?_
      exact gDm l j hj'
    have wq := aSq_w w.1 hP hg
    have b0 := w.1.1.1
    have b1 := w.1.1.2.1
    have wKq : ∀ (n u : Nat), u < 52 → aSq x.1 (aPm z (x.1 2).toNat) l n u = x.1 u := by
      intro n
      induction n with
      | zero => intro u _; rfl
      | succ n ih => intro u hu; exact (aSit_n (by omega)).trans (ih u hu)
    refine zCs (aSq x.1 (aPm z (x.1 2).toNat) l (aCn z (x.1 2).toNat)) (iI (aCn z (x.1 2).toNat : Nat)) w (wq _ (Nat.le_refl _)).1 (wK_c w.2.2.2.2.2.2.1 w.1.1 (wKq _ 0 (by decide)) (fun u _ hu _ => wKq _ u hu)) (fun σ h => ?_) (fun σ h => ?_)
    · obtain ⟨τ, g1, g2, g3, g4, g5⟩ := zc69 (d := 52) (z := z) w.1 h.1 h4
      have g1 : zev 63 69 [.inr (.inr (0, 35)), .inr (.inr (0, 0)), .inl (iI z)] σ = _ := g1
      rw [q2] at g1
      have hA : cA 0 x.1 τ := (RC_s h g2).1
      have key : ∀ (m k : Nat) (τ : zM) (d1 : Option zV), k + m = aCn z (x.1 2).toNat → cA 0 (aSq x.1 (aPm z (x.1 2).toNat) l k) τ → τ.1 0 35 0 = iI (aCn z (x.1 2).toNat : Nat) → (∀ i, i < aCn z (x.1 2).toNat → τ.1 0 36 i = iI (aPm z (x.1 2).toNat i : Nat) ∧ τ.1 0 37 i = iI (l.getD i 0 : Nat)) → ∃ υ, zrun (zev 63) zT_111 30 [some (.inr (.inr (0, 30))), d1, some (.inl (iI k))] [] τ = some (iI (aCn z (x.1 2).toNat : Nat), 0, υ) ∧ zFr (fun g k _ => g = 0 ∧ k = 18) τ υ ∧ cA 0 (aSq x.1 (aPm z (x.1 2).toNat) l (aCn z (x.1 2).toNat)) υ := by
        intro m
        induction m with
        | zero =>
          intro k τ d1 hk hA h35 h3
          obtain rfl : k = aCn z (x.1 2).toNat := by omega
          rw [ez_111_30, h35, if_neg (by rw [iI_lt (by omega) (by omega)]; omega)]
          exact ⟨τ, rfl, zFr_r τ, hA⟩
        | succ m ih =>
          intro k τ d1 hk hA h35 h3
          have h3k := h3 k (by omega)
          have hPk := hP k (by omega)
          rw [ez_111_30, h35, if_pos (by rw [iI_lt (by omega) (by omega)]; omega), zgd_t (iI_ink (z := k) (k := k) rfl (show k < 4 by omega) (by decide)), zgd_t (iI_ink (z := k) (k := k) rfl (show k < 4 by omega) (by decide)), iI_Nn (show k ≤ 2147483647 by omega), h3k.1, h3k.2, zgd_t (iI_ink (z := (aPm z (x.1 2).toNat k : Nat)) (k := aPm z (x.1 2).toNat k) rfl (by omega) (by decide)), iI_Nn (show aPm z (x.1 2).toNat k ≤ 2147483647 by omega), hki1]
          have hA2 := cA_sit (p := aPm z (x.1 2).toNat k) (z := ((l.getD k 0 : Nat) : Int)) hA (wq k (by omega)).1 (by omega)
          rw [show cE ((l.getD k 0 : Nat) : Int) = (l.getD k 0 : Nat) from if_neg (by omega)] at hA2
          obtain ⟨υ, y1, y2, y3⟩ := ih (k + 1) _ none (by omega) hA2 (by rw [zfe (by omega)]; exact h35) (fun i hi => by rw [zfe (by omega), zfe (by omega)]; exact h3 i hi)
          exact ⟨υ, y1, zFr_tt (zFr_w (by omega)) y2, y3⟩
      obtain ⟨υ, y1, y2, y3⟩ := key (aCn z (x.1 2).toNat) 0 τ (some (.inl (iI z))) (by omega) hA g3 (fun i hi => ⟨g4 i hi, g5 l q2 i hi⟩)
      have y1 : zrun (zev 63) zT_111 30 [some (.inr (.inr (0, 30))), some (.inl (iI z)), some (.inl 0)] [] τ = _ := y1
      rw [ez_111]
      simp only [zc114 (d := 61) h.1 wP hz, qp, zbs, zBi, cond_true, g1, Option.isSome, y1]
      exact ⟨υ, rfl, zFr_tt (zFr_i g2 fun _ _ _ q => by omega) (zFr_i y2 fun _ _ _ q => by omega), y3⟩
    · obtain ⟨τ, g1, g2, g3, g4, g5, g6⟩ := zm207 (d := 49) (z := z) w.1 h.1 h4
      have g1 : zev 63 207 [.inr (.inr (0, 60)), .inl (iI z)] σ = _ := g1
      rw [q2] at g1
      have key : ∀ (m k : Nat) (τ : zM) (d1 : Option zV), k + m = aCn z (x.1 2).toNat → mS 61 (aSq x.1 (aPm z (x.1 2).toNat) l k) τ → τ.1 0 60 11 = iI (aCn z (x.1 2).toNat : Nat) → (∀ i, i < aCn z (x.1 2).toNat → τ.1 0 68 i = iI (aPm z (x.1 2).toNat i : Nat) ∧ τ.1 0 70 i = iI (l.getD i 0 : Nat)) → ∃ υ, zrun (zev 63) zT_209 23 [some (.inr (.inr (0, 60))), d1, some (.inl (iI k))] [] τ = some (iI (aCn z (x.1 2).toNat : Nat), 0, υ) ∧ zFr (fun g k _ => g = 0 ∧ k = 61) τ υ ∧ mS 61 (aSq x.1 (aPm z (x.1 2).toNat) l (aCn z (x.1 2).toNat)) υ := by
        intro m
        induction m with
        | zero =>
          intro k τ d1 hk hS h11 h3
          obtain rfl : k = aCn z (x.1 2).toNat := by omega
          rw [ez_209_23, h11, if_neg (by rw [iI_lt (by omega) (by omega)]; omega)]
          exact ⟨τ, rfl, zFr_r τ, hS⟩
        | succ m ih =>
          intro k τ d1 hk hS h11 h3
          have h3k := h3 k (by omega)
          have hPk := hP k (by omega)
          have e180 : zev 63 180 [.inr (.inr (0, 60)), .inl (iI (aPm z (x.1 2).toNat k : Nat)), .inl (iI (l.getD k 0 : Nat))] τ = some (0, 0, zwI τ 0 61 (54 + 3 * aPm z (x.1 2).toNat k) (iI (((l.getD k 0 : Nat) : Int) + 1))) := zm180 (d := 61) (by omega)
          rw [ez_209_23, h11, if_pos (by rw [iI_lt (by omega) (by omega)]; omega), zgd_t (iI_ink (z := k) (k := k) rfl (show k < 8 by omega) (by decide)), zgd_t (iI_ink (z := k) (k := k) rfl (show k < 8 by omega) (by decide)), iI_Nn (show k ≤ 2147483647 by omega), h3k.1, h3k.2, e180]
          simp only [zbs, hki1]
          obtain ⟨υ, y1, y2, y3⟩ := ih (k + 1) _ none (by omega) (mS_up hS) (by rw [zfe (by omega)]; exact h11) (fun i hi => by rw [zfe (by omega), zfe (by omega)]; exact h3 i hi)
          exact ⟨υ, y1, zFr_tt (zFr_w (by omega)) y2, y3⟩
      obtain ⟨υ, y1, y2, y3⟩ := key (aCn z (x.1 2).toNat) 0 τ (some (.inl (iI z))) (by omega) g3 g4 (fun i hi => ⟨g5 i hi, g6 l q2 i hi⟩)
      have y1 : zrun (zev 63) zT_209 23 [some (.inr (.inr (0, 60))), some (.inl (iI z)), some (.inl 0)] [] τ = _ := y1
      rw [ez_209]
      simp only [zm205 (d := 61) h.1 wP hz, qp, zbs, zBi, cond_true, g1, Option.isSome, y1]
      exact ⟨υ, rfl, zFr_tt g2 (zFr_i y2 fun _ _ _ q => by omega), y3⟩
