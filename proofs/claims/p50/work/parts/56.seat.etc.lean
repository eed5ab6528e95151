theorem aCn_m {z : Int} : ∀ (n k : Nat), k ≤ n → aCn z k ≤ aCn z n
  | 0, k, h => by
    rw [show k = 0 by omega]; exact Nat.le_refl _
  | n + 1, k, h => by
    have e : aCn z (n + 1) = aCn z n + bif bt (iI z) n then 1 else 0 := rfl
    by_cases q : k = n + 1
    · rw [q]; exact Nat.le_refl _
    · have := aCn_m (z := z) n k (by omega)
      omega
theorem aLf_w {S : zS} {z : Int} (w : wA S) : ∀ n, n ≤ (S 2).toNat → wA (aLf S z n) ∧ aLf S z n 2 = S 2 ∧ aLf S z n 0 = S 0 ∧ ∀ i, (∀ p, i ≠ 54 + 3 * p) → aLf S z n i = S i
  | 0, _ => ⟨w, rfl, rfl, fun _ _ => rfl⟩
  | n + 1, hn => by
    obtain ⟨h1, h2, h3, h4⟩ := aLf_w (z := z) w n (by omega)
    have b0 := w.1.1
    show wA (bif bt (iI z) n then aSit (aLf S z n) n (-1) else aLf S z n) ∧ (bif bt (iI z) n then aSit (aLf S z n) n (-1) else aLf S z n) 2 = S 2 ∧ (bif bt (iI z) n then aSit (aLf S z n) n (-1) else aLf S z n) 0 = S 0 ∧ ∀ i, (∀ p, i ≠ 54 + 3 * p) → (bif bt (iI z) n then aSit (aLf S z n) n (-1) else aLf S z n) i = S i
    cases bt (iI z) n
    · exact ⟨h1, h2, h3, h4⟩
    · rw [cond_true]
      exact ⟨aSit_w h1 (by rw [h2]; omega) (by omega), by rw [aSit_n (by omega)]; exact h2, by rw [aSit_n (by omega)]; exact h3, fun i hi => by rw [aSit_n (hi n)]; exact h4 i hi⟩
theorem aPm_s {z : Int} {n j : Nat} (h : j < aCn z n) : aPm z (n + 1) j = aPm z n j := by
  show (bif bt (iI z) n then (fun i => if i = aCn z n then n else aPm z n i) else aPm z n) j = _
  cases bt (iI z) n
  · rfl
  · rw [cond_true]; exact if_neg (by omega)
theorem aLf_p {S : zS} {z : Int} : ∀ n, aGr (aPm z n) (aCn z n) 0 S (aLf S z n) ∧ ∀ j, j < aCn z n → aSeat (aLf S z n) (aPm z n j) < 0
  | 0 => ⟨fun _ _ => rfl, fun j h => by have h : j < 0 := h; omega⟩
  | n + 1 => by
    obtain ⟨h1, h2⟩ := aLf_p (S := S) (z := z) n
    have e : aCn z (n + 1) = aCn z n + bif bt (iI z) n then 1 else 0 := rfl
    have e2 : aLf S z (n + 1) = bif bt (iI z) n then aSit (aLf S z n) n (-1) else aLf S z n := rfl
    have e3 : aPm z (n + 1) = bif bt (iI z) n then (fun i => if i = aCn z n then n else aPm z n i) else aPm z n := rfl
    cases q : bt (iI z) n
    · rw [q, cond_false] at e e2 e3
      rw [e, e2, e3]
      exact ⟨h1, h2⟩
    · rw [q, cond_true] at e e2 e3
      rw [e, e2, e3]
      refine ⟨fun i hi => ?_, fun j hj => ?_⟩
      · have h0 := hi (aCn z n) (by omega) (by omega)
        simp only [if_true] at h0
        rw [aSit_n h0]
        refine h1 i (fun j g1 g2 => ?_)
        have := hi j g1 (by omega)
        simp only [if_neg (show ¬ j = aCn z n by omega)] at this
        exact this
      · show aSeat (aSit (aLf S z n) n (-1)) (if j = aCn z n then n else aPm z n j) < 0
        by_cases q2 : j = aCn z n
        · rw [if_pos q2, aSit_s]; omega
        · rw [if_neg q2]
          have := aPm_b (z := z) n j (by omega)
          rw [aSit_o (by omega)]
          exact h2 j (by omega)
def aFs (S : zS) (z : Int) : Option (List Nat) := aSf (aPm z (S 2).toNat) (aCn z (S 2).toNat) 0 S
theorem zc69 {S : zS} {z : Int} {d : Nat} {σ : zM} (w : wA S) (hA : cA 0 S σ) (hz : aCn z (S 2).toNat ≤ 4) : ∃ τ, zev (d + 11) 69 [.inr (.inr (0, 35)), .inr (.inr (0, 0)), .inl (iI z)] σ = some (zB (aFs S z).isSome, 0, τ) ∧ zFr WC σ τ ∧ τ.1 0 35 0 = iI (aCn z (S 2).toNat : Nat) ∧ (∀ i, i < aCn z (S 2).toNat → τ.1 0 36 i = iI (aPm z (S 2).toNat i : Nat)) ∧ ∀ l, aFs S z = some l → ∀ i, i < aCn z (S 2).toNat → τ.1 0 37 i = iI (l.getD i 0 : Nat) := by
  have p0 := w.2.2.1.1
  have p1 := w.2.2.1.2.1
  obtain ⟨τ, g1, g2, g3⟩ := zc25 (d := d + 5) (g := 3) (h := 0) (by decide) w hA
  have g1 : zev (d + 10) 25 [.inr (.inr (3, 0)), .inr (.inr (0, 0))] σ = _ := g1
  have key : ∀ (m k : Nat) (σ : zM) (d1 : Option zV), k + m = (S 2).toNat → cA 3 (aLf S z k) σ → σ.1 0 35 0 = iI (aCn z k : Nat) → (∀ i, i < aCn z k → σ.1 0 36 i = iI (aPm z k i : Nat)) → ∃ τ, zrun (zev (d + 10)) zT_69 15 [some (.inr (.inr (0, 35))), d1, some (.inl (iI z)), some (.inl (iI k))] [] σ = some (zB (aFs S z).isSome, 0, τ) ∧ zFr WC σ τ ∧ τ.1 0 35 0 = iI (aCn z (S 2).toNat : Nat) ∧ (∀ i, i < aCn z (S 2).toNat → τ.1 0 36 i = iI (aPm z (S 2).toNat i : Nat)) ∧ ∀ l, aFs S z = some l → ∀ i, i < aCn z (S 2).toNat → τ.1 0 37 i = iI (l.getD i 0 : Nat) := by
    intro m
    induction m with
    | zero =>
      intro k σ d1 hk hA h35 h36
      obtain rfl : k = (S 2).toNat := by omega
      obtain ⟨wT, t2, t0, tg⟩ := aLf_w (z := z) w (S 2).toNat (Nat.le_refl _)
      obtain ⟨gr, lf⟩ := aLf_p (S := S) (z := z) (S 2).toNat
      have inj : ∀ i j, i < j → j < aCn z (S 2).toNat → aPm z (S 2).toNat i < aPm z (S 2).toNat j := fun i j => aPm_i (S 2).toNat i j
      have hP : ∀ j, j < aCn z (S 2).toNat → aPm z (S 2).toNat j < (aLf S z (S 2).toNat 2).toNat := fun j hj => by rw [t2]; exact aPm_b _ j hj
      have ef : aSf (aPm z (S 2).toNat) (aCn z (S 2).toNat) 0 (aLf S z (S 2).toNat) = aFs S z := aSf_c _ 0 w.1.2.1 gr
      obtain ⟨τ2, f1, f2, f3, f4, f5⟩ := zc27k (d := d + 5) hA wT
      have f1 : zev (d + 10) 27 [.inr (.inr (3, 0))] σ = _ := f1
      have f5 : zev (d + 10) 29 [.inr (.inr (3, 0))] τ2 = _ := f5
      have fr : zFr WC σ τ2 := zFr_i f2 fun _ _ _ q => by omega
      have t35 : τ2.1 0 35 0 = iI (aCn z (S 2).toNat : Nat) := (f2.1 _ _ _ (by omega)).trans h35
      have t36 : ∀ i, i < aCn z (S 2).toNat → τ2.1 0 36 i = iI (aPm z (S 2).toNat i : Nat) := fun i hi => (f2.1 _ _ _ (by omega)).trans (h36 i hi)
      rw [ez_69_15, hA.2.2.2.1.1, t2, if_neg (by rw [iI_lt (by omega) (by omega)]; omega)]
      simp only [f1, f5, zbs, zCk]
      cases q : aCk (aLf S z (S 2).toNat)
      · obtain ⟨υ, c1, c2, c3, c4⟩ := zc70 hz inj wT hP (aCn z (S 2).toNat) 0 (d + 5 - aCn z (S 2).toNat) (aLf S z (S 2).toNat) τ2 (by omega) wT (fun _ _ => rfl) (fun j _ h2 => lf j h2) q f3 f4 t35 t36
        rw [show d + 5 - aCn z (S 2).toNat + aCn z (S 2).toNat + 5 = d + 10 by omega, ef] at c1
        have c1 : zev (d + 10) 70 [.inr (.inr (0, 35)), .inl 0] τ2 = _ := c1
        rw [cond_false, c1]
        simp only [zbs, zBi]
        refine ⟨υ, ?_, zFr_tt fr (zFr_i c2 fun _ _ _ q => by omega), (c2.1 _ _ _ (by omega)).trans t35, fun i hi => (c2.1 _ _ _ (by omega)).trans (t36 i hi), fun l h i hi => ?_⟩
        · cases (aFs S z).isSome
          · exact zgd_t (by decide)
          · exact zgd_t (by decide)
        · have := c4 l (by rw [ef]; exact h) i hi
          rwa [Nat.zero_add] at this
      · have en : aFs S z = none := by
          rw [← ef]
          exact aSf_ck inj _ 0 (by omega) wT (fun j _ h2 => ⟨hP j h2, lf j h2⟩) q
        rw [cond_true, en, zgd_t (by decide)]
        exact ⟨τ2, rfl, fr, t35, t36, fun l h => by cases h⟩
    | succ m ih =>
      intro k σ d1 hk hA h35 h36
      obtain ⟨wT, t2, t0, tg⟩ := aLf_w (z := z) w k (by omega)
      have e : aCn z (k + 1) = aCn z k + bif bt (iI z) k then 1 else 0 := rfl
      have e2 : aLf S z (k + 1) = bif bt (iI z) k then aSit (aLf S z k) k (-1) else aLf S z k := rfl
      have e3 : aPm z (k + 1) = bif bt (iI z) k then (fun i => if i = aCn z k then k else aPm z k i) else aPm z k := rfl
      have mo := aCn_m (z := z) (S 2).toNat (k + 1) (by omega)
      rw [ez_69_15, hA.2.2.2.1.1, t2, if_pos (by rw [iI_lt (by omega) (by omega)]; omega), zc145 (d := d + 9) (show k < 32 by omega)]
      simp only [zbs, zBi, hki1]
      cases q : bt (iI z) k
      · rw [q, cond_false] at e e2 e3
        rw [cond_false]
        exact ih (k + 1) σ none (by omega) (by rw [e2]; exact hA) (by rw [e]; exact h35) (fun i hi => by rw [e3]; rw [e] at hi; exact h36 i hi)
      · rw [q, cond_true] at e e2 e3
        have e4 : (iI ((aCn z k : Nat) : Int) < 4) = (((aCn z k : Nat) : Int) < 4) := iI_lt (b := 4) (by omega) (by decide)
        rw [cond_true, h35]
        simp only [e4]
        rw [if_pos (by omega), zgd_t (iI_ink (z := aCn z k) (k := aCn z k) rfl (by omega) (by decide)), zgd_t (iI_ink (z := k) (k := k) rfl (show k < 8 by omega) (by decide)), iI_Nn (show aCn z k ≤ 2147483647 by omega), iI_Nn (show k ≤ 2147483647 by omega), zfe (by omega), h35, hki1]
        have hA4 : cA 3 (aLf S z k) (zwI (zwI σ 0 36 (aCn z k) (iI k)) 0 35 0 (iI ((aCn z k + 1 : Nat) : Int))) := cA_c hA (fun k a _ _ _ => by rw [zfn (by omega), zfn (by omega)]) (by rw [zfe (by omega), zfe (by omega)])
        have hA5 : cA 3 (aLf S z (k + 1)) (zwI (zwI (zwI σ 0 36 (aCn z k) (iI k)) 0 35 0 (iI ((aCn z k + 1 : Nat) : Int))) 3 18 k (-9)) := by
          rw [e2]; exact cA_sit (p := k) (z := -1) hA4 wT (by omega)
        obtain ⟨υ, x1, x2, x3⟩ := ih (k + 1) _ none (by omega) hA5 (by rw [e, zfe (by omega), zfs]) (fun i hi => by
          rw [e] at hi
          rw [e3]
          show _ = iI ((if i = aCn z k then k else aPm z k i : Nat) : Int)
          by_cases q2 : i = aCn z k
          · subst q2; rw [if_pos rfl, zfe (by omega), zfe (by omega), zfs]
          · rw [if_neg q2, zfe (by omega), zfe (by omega), zfe (by omega)]; exact h36 i (by omega))
        exact ⟨υ, x1, zFr_tt (zFr_tt (zFr_tt (zFr_w (by omega)) (zFr_w (by omega))) (zFr_w (by omega))) x2, x3⟩
  obtain ⟨υ, x1, x2, x3⟩ := key (S 2).toNat 0 (zwI τ 0 35 0 0) (some (.inr (.inr (0, 0)))) (by omega) (cA_c g3 (fun k a _ _ _ => zfn (by omega)) (zfe (by omega))) (by rw [zfs]; rfl) (fun i hi => by have hi : i < 0 := hi; omega)
  rw [ez_69]
  simp only [g1, zbs]
  exact ⟨υ, x1, zFr_tt (zFr_tt (zFr_i g2 fun _ _ _ q => by omega) (zFr_w (by omega))) x2, x3⟩
theorem zm207 {S : zS} {z : Int} {d : Nat} {σ : zM} (w : wA S) (hS : mS 61 S σ) (hz : aCn z (S 2).toNat ≤ 4) : ∃ τ, zev (d + 14) 207 [.inr (.inr (0, 60)), .inl (iI z)] σ = some (zB (aFs S z).isSome, 0, τ) ∧ zFr WM σ τ ∧ mS 61 S τ ∧ τ.1 0 60 11 = iI (aCn z (S 2).toNat : Nat) ∧ (∀ i, i < aCn z (S 2).toNat → τ.1 0 68 i = iI (aPm z (S 2).toNat i : Nat)) ∧ ∀ l, aFs S z = some l → ∀ i, i < aCn z (S 2).toNat → τ.1 0 70 i = iI (l.getD i 0 : Nat) := by
  have p0 := w.2.2.1.1
  have p1 := w.2.2.1.2.1
  have inj : ∀ i j, i < j → j < aCn z (S 2).toNat → aPm z (S 2).toNat i < aPm z (S 2).toNat j := fun i j => aPm_i (S 2).toNat i j
  have hP : ∀ j, j < aCn z (S 2).toNat → aPm z (S 2).toNat j < (S 2).toNat := fun j hj => aPm_b _ j hj
  have back : ∀ (m k : Nat) (T : zS) (σ : zM) (d1 : Option zV) (v : Bool), k + m = aCn z (S 2).toNat → aGr (aPm z (S 2).toNat) m k S T → mS 61 T σ → σ.1 0 60 11 = iI (aCn z (S 2).toNat : Nat) → (∀ i, i < aCn z (S 2).toNat → σ.1 0 68 i = iI (aPm z (S 2).toNat i : Nat) ∧ σ.1 0 69 i = iI (aSeat S (aPm z (S 2).toNat i))) → ∃ τ, zrun (zev (d + 13)) zT_207 77 [some (.inr (.inr (0, 60))), d1, some (.inl (zB v)), some (.inl (iI k))] [] σ = some (zB v, 0, τ) ∧ zFr (fun g k _ => g = 0 ∧ k = 61) σ τ ∧ mS 61 S τ := by
    intro m
    induction m with
    | zero =>
      intro k T σ d1 v hk gr hS h11 h6
      have : T = S := funext fun i => gr i (fun j a b => by omega)
      rw [this] at hS
      rw [ez_207_77, h11, if_neg (by rw [iI_lt (by omega) (by omega)]; omega)]
      refine ⟨σ, ?_, zFr_r σ, hS⟩
      cases v
      · exact zgd_t (by decide)
      · exact zgd_t (by decide)
    | succ m ih =>
      intro k T σ d1 v hk gr hS h11 h6
      have hPk := hP k (by omega)
      have h6k := h6 k (by omega)
      have e180 : zev (d + 13) 180 [.inr (.inr (0, 60)), .inl (iI (aPm z (S 2).toNat k : Nat)), .inl (iI (aSeat S (aPm z (S 2).toNat k)))] σ = some (0, 0, zwI σ 0 61 (54 + 3 * aPm z (S 2).toNat k) (iI (aSeat S (aPm z (S 2).toNat k) + 1))) := zm180 (d := d + 11) (by omega)
      rw [ez_207_77, h11, if_pos (by rw [iI_lt (by omega) (by omega)]; omega), zgd_t (iI_ink (z := k) (k := k) rfl (show k < 8 by omega) (by decide)), zgd_t (iI_ink (z := k) (k := k) rfl (show k < 8 by omega) (by decide)), iI_Nn (show k ≤ 2147483647 by omega), h6k.1, h6k.2, e180]
      simp only [zbs, hki1]
      have g2 : aGr (aPm z (S 2).toNat) m (k + 1) S (aSit T (aPm z (S 2).toNat k) (aSeat S (aPm z (S 2).toNat k))) := fun i hi => by
        by_cases q : i = 54 + 3 * aPm z (S 2).toNat k
        · subst q
          unfold aSit
          rw [zup_s]
          unfold aSeat
          omega
        · rw [aSit_n q]
          refine gr i (fun j a b => ?_)
          by_cases q2 : j = k
          · subst q2; exact q
          · exact hi j (by omega) (by omega)
      obtain ⟨υ, x1, x2, x3⟩ := ih (k + 1) _ _ none v (by omega) g2 (mS_up hS) (by rw [zfe (by omega)]; exact h11) (fun i hi => by rw [zfe (by omega), zfe (by omega)]; exact h6 i hi)
      exact ⟨υ, x1, zFr_tt (zFr_w (by omega)) x2, x3⟩
  have key : ∀ (m k : Nat) (σ : zM) (d3 : Option zV), k + m = (S 2).toNat → mS 61 S σ → σ.1 0 60 11 = iI (aCn z k : Nat) → (∀ i, i < aCn z k → σ.1 0 68 i = iI (aPm z k i : Nat) ∧ σ.1 0 69 i = iI (aSeat S (aPm z k i))) → ∃ τ, zrun (zev (d + 13)) zT_207 7 [some (.inr (.inr (0, 60))), some (.inl (iI z)), some (.inl (iI k)), d3] [] σ = some (zB (aFs S z).isSome, 0, τ) ∧ zFr WM σ τ ∧ mS 61 S τ ∧ τ.1 0 60 11 = iI (aCn z (S 2).toNat : Nat) ∧ (∀ i, i < aCn z (S 2).toNat → τ.1 0 68 i = iI (aPm z (S 2).toNat i : Nat)) ∧ ∀ l, aFs S z = some l → ∀ i, i < aCn z (S 2).toNat → τ.1 0 70 i = iI (l.getD i 0 : Nat) := by
    intro m
    induction m with
    | zero =>
      intro k σ d3 hk hS h11 h6
      obtain rfl : k = (S 2).toNat := by omega
      obtain ⟨τ, g1, g2, g3⟩ := zm166 (d := d + 7) hS w.1 w.2.1 w.2.2.2.2.1
      have g1 : zev (d + 13) 166 [.inr (.inr (0, 60))] σ = _ := g1
      have hS2 : mS 61 S τ := mS_f hS (zFr_f g2 (fun i => by omega))
      obtain ⟨υ, U, c1, c2, c3, c4, c5, c6⟩ := zm206 hz hP (aCn z (S 2).toNat) 0 (d + 4 - aCn z (S 2).toNat) S τ (by omega) w rfl hS2 g3 ((g2.1 _ _ _ (by omega)).trans h11) (fun i hi => (g2.1 _ _ _ (by omega)).trans (h6 i hi).1)
      rw [show d + 4 - aCn z (S 2).toNat + aCn z (S 2).toNat + 9 = d + 13 by omega] at c1
      have c1 : zev (d + 13) 206 [.inr (.inr (0, 60)), .inl 0] τ = _ := c1
      obtain ⟨ω, y1, y2, y3⟩ := back (aCn z (S 2).toNat) 0 U υ (some (.inl (iI z))) (aFs S z).isSome (by omega) c5 c3 ((c2.1 _ _ _ (by omega)).trans ((g2.1 _ _ _ (by omega)).trans h11)) (fun i hi => ⟨(c2.1 _ _ _ (by omega)).trans ((g2.1 _ _ _ (by omega)).trans (h6 i hi).1), (c2.1 _ _ _ (by omega)).trans ((g2.1 _ _ _ (by omega)).trans (h6 i hi).2)⟩)
      rw [ez_207_7, hS 2 (by decide), if_neg (by rw [iI_lt (by omega) (by omega)]; omega), g1]
      simp only [zbs, c1]
      refine ⟨ω, y1, zFr_tt (zFr_tt (zFr_i g2 fun _ _ _ q => by omega) (zFr_i c2 fun _ _ _ q => by omega)) (zFr_i y2 fun _ _ _ q => by omega), y3, (y2.1 _ _ _ (by omega)).trans ((c2.1 _ _ _ (by omega)).trans ((g2.1 _ _ _ (by omega)).trans h11)), fun i hi => (y2.1 _ _ _ (by omega)).trans ((c2.1 _ _ _ (by omega)).trans ((g2.1 _ _ _ (by omega)).trans (h6 i hi).1)), fun l h i hi => ?_⟩
      have := c6 l h i hi
      rw [Nat.zero_add] at this
      exact (y2.1 _ _ _ (by omega)).trans this
    | succ m ih =>
      intro k σ d3 hk hS h11 h6
      have e : aCn z (k + 1) = aCn z k + bif bt (iI z) k then 1 else 0 := rfl
      have e3 : aPm z (k + 1) = bif bt (iI z) k then (fun i => if i = aCn z k then k else aPm z k i) else aPm z k := rfl
      have mo := aCn_m (z := z) (S 2).toNat (k + 1) (by omega)
      rw [ez_207_7, hS 2 (by decide), if_pos (by rw [iI_lt (by omega) (by omega)]; omega), zm152 (d := d + 12) (show k < 32 by omega)]
      simp only [zbs, zBi, hki1]
      cases q : bt (iI z) k
      · rw [q, cond_false] at e e3
        rw [cond_false]
        exact ih (k + 1) σ none (by omega) hS (by rw [e]; exact h11) (fun i hi => by rw [e3]; rw [e] at hi; exact h6 i hi)
      · rw [q, cond_true] at e e3
        have hgL : ∀ {y : zR}, zgd (zin (iI (aCn z k : Nat)) 8) y = y := fun {y} => zgd_t (iI_ink (z := aCn z k) (k := aCn z k) rfl (by omega) (by decide))
        have hNL : Int32.toNatClampNeg (iI (aCn z k : Nat)) = aCn z k := iI_Nn (by omega)
        have e179 : ∀ v, zev (d + 13) 179 [.inr (.inr (0, 60)), .inl (iI k)] (zwI σ 0 68 (aCn z k) v) = some (iI (aSeat S k), 0, zwI σ 0 68 (aCn z k) v) := fun v => zm179 (d := d + 10) (mS_f hS (zfn (by omega))) (by omega)
        rw [cond_true, h11, hgL, hNL, e179]
        simp only [zbs, zfe (show ¬ (0 = 0 ∧ 60 = 68 ∧ 11 = aCn z k) by omega), zfe (show ¬ (0 = 0 ∧ 60 = 69 ∧ 11 = aCn z k) by omega), h11, hgL, hNL, hki1]
        obtain ⟨υ, x1, x2, x3⟩ := ih (k + 1) (zwI (zwI (zwI σ 0 68 (aCn z k) (iI k)) 0 69 (aCn z k) (iI (aSeat S k))) 0 60 11 (iI ((aCn z k + 1 : Nat) : Int))) none (by omega) (mS_f hS (by rw [zfn (by omega), zfn (by omega), zfn (by omega)])) (by rw [e, zfs]) (fun i hi => by
          rw [e] at hi
          rw [e3]
          show _ = iI ((if i = aCn z k then k else aPm z k i : Nat) : Int) ∧ _ = iI (aSeat S (if i = aCn z k then k else aPm z k i))
          by_cases q2 : i = aCn z k
          · subst q2; rw [if_pos rfl, zfe (by omega), zfe (by omega), zfs, zfe (by omega), zfs]; exact ⟨rfl, rfl⟩
          · rw [if_neg q2, zfe (by omega), zfe (by omega), zfe (by omega), zfe (by omega), zfe (by omega), zfe (by omega)]; exact h6 i (by omega))
        exact ⟨υ, x1, zFr_tt (zFr_tt (zFr_tt (zFr_w (by omega)) (zFr_w (by omega))) (zFr_w (by omega))) x2, x3⟩
  obtain ⟨υ, x1, x2, x3⟩ := key (S 2).toNat 0 (zwI σ 0 60 11 0) none (by omega) (mS_f hS (zfn (by omega))) (by rw [zfs]; rfl) (fun i hi => by have hi : i < 0 := hi; omega)
  rw [ez_207]
  exact ⟨υ, x1, zFr_tt (zFr_w (by omega)) x2, x3⟩
theorem zx_110 {x : zXx} (w : WX x) (z q : Int) (hz : zrn z) (hq : zrn q) : zCall 110 208 [.inl (iI z), .inl (iI q)] x := by
  have c1 : ∀ {σ : zM}, zev 63 141 [.inl (iI q), .inl 0, .inl 3] σ = some (zB (decide (0 ≤ q ∧ q ≤ 3)), 0, σ) := zc141 (l := 0) (h := 3) hq (by decide) (by decide)
  have m1 : ∀ {σ : zM}, zev 63 149 [.inr (.inl (Int32.toInt64 (iI q))), .inr (.inl 0), .inr (.inl 3)] σ = some (zB (decide (0 ≤ q ∧ q ≤ 3)), 0, σ) := zm149k (l := 0) (h := 3) hq (by decide) (by decide)
  have wP := w.1.2.2.1
  cases qp : aPy z (x.1 2).toNat
  · refine zCq (-1) w (fun σ h => ?_) (fun σ h => ?_)
    · rw [ez_110]
      simp only [zc114 (d := 61) h.1 wP hz, qp, zbs, zBi, cond_false]
      exact ⟨σ, rfl, zFr_r σ⟩
    · rw [ez_208]
      simp only [zm205 (d := 61) h.1 wP hz, qp, zbs, zBi, cond_false]
      exact ⟨σ, rfl, zFr_r σ, h.1⟩
  by_cases q1 : 0 ≤ q ∧ q ≤ 3
  case neg =>
    refine zCq (-1) w (fun σ h => ?_) (fun σ h => ?_)
    · rw [ez_110]
      simp only [zc114 (d := 61) h.1 wP hz, qp, c1, decide_eq_false q1, zbs, zBi, cond_false, cond_true]
      exact ⟨σ, rfl, zFr_r σ⟩
    · rw [ez_208]
      simp only [zm205 (d := 61) h.1 wP hz, qp, m1, decide_eq_false q1, zbs, zBi, cond_false, cond_true]
      exact ⟨σ, rfl, zFr_r σ, h.1⟩
  have h4 : aCn z (x.1 2).toNat ≤ 4 := (of_decide_eq_true qp).2
  obtain ⟨j, rfl⟩ := zint q1.1
  have hj : j < 4 := by omega
  refine zCq (match aFs x.1 z with | none => -3 | some l => if j < aCn z (x.1 2).toNat then iI (l.getD j 0 : Nat) else -3) w (fun σ h => ?_) (fun σ h => ?_)
  · obtain ⟨τ, g1, g2, g3, g4, g5⟩ := zc69 (d := 52) (z := z) w.1 h.1 h4
    have g1 : zev 63 69 [.inr (.inr (0, 35)), .inr (.inr (0, 0)), .inl (iI z)] σ = _ := g1
    rw [ez_110]
    simp only [zc114 (d := 61) h.1 wP hz, qp, c1, decide_eq_true q1, zbs, zBi, cond_true, g1, g3, iI_lt (show zrn (j : Int) by omega) (show zrn ((aCn z (x.1 2).toNat : Nat) : Int) by omega), zgd_t (iI_ink (z := j) (k := j) rfl hj (by decide)), iI_Nn (show j ≤ 2147483647 by omega)]
    refine ⟨τ, ?_, g2⟩
    cases q2 : aFs x.1 z with
    | none => rfl
    | some l =>
      show (bif true then _ else _) = some (if j < aCn z (x.1 2).toNat then iI (l.getD j 0 : Nat) else -3, 0, τ)
      rw [cond_true]
      by_cases q3 : j < aCn z (x.1 2).toNat
      · rw [if_pos (by omega), if_pos q3, g5 l q2 j q3]
      · rw [if_neg (by omega), if_neg q3]
  · obtain ⟨τ, g1, g2, g3, g4, g5, g6⟩ := zm207 (d := 49) (z := z) w.1 h.1 h4
    have g1 : zev 63 207 [.inr (.inr (0, 60)), .inl (iI z)] σ = _ := g1
    rw [ez_208]
    simp only [zm205 (d := 61) h.1 wP hz, qp, m1, decide_eq_true q1, zbs, zBi, cond_true, g1, g4, iI_lt (show zrn (j : Int) by omega) (show zrn ((aCn z (x.1 2).toNat : Nat) : Int) by omega), zgd_t (iI_ink (z := j) (k := j) rfl (show j < 8 by omega) (by decide)), iI_Nn (show j ≤ 2147483647 by omega)]
    refine ⟨τ, ?_, g2, g3⟩
    cases q2 : aFs x.1 z with
    | none => rfl
    | some l =>
      show (bif true then _ else _) = some (if j < aCn z (x.1 2).toNat then iI (l.getD j 0 : Nat) else -3, 0, τ)
      rw [cond_true]
      by_cases q3 : j < aCn z (x.1 2).toNat
      · rw [if_pos (by omega), if_pos q3, g6 l q2 j q3]
      · rw [if_neg (by omega), if_neg q3]
theorem gDm : ∀ (l : List Nat) (j : Nat), j < l.length → l.getD j 0 ∈ l
  | [], j, h => absurd h (Nat.not_lt_zero j)
  | a :: l, 0, _ => List.mem_cons.mpr (Or.inl rfl)
  | a :: l, j + 1, h => List.mem_cons.mpr (Or.inr (gDm l j (Nat.lt_of_succ_lt_succ h)))
def aSq (S : zS) (P : Nat → Nat) (l : List Nat) : Nat → zS
  | 0 => S
  | k + 1 => aSit (aSq S P l k) (P k) (l.getD k 0 : Nat)
theorem aSq_w {S : zS} {P : Nat → Nat} {l : List Nat} {L : Nat} (w : wA S) (hP : ∀ j, j < L → P j < (S 2).toNat) (hl : ∀ j, j < L → l.getD j 0 < (S 0).toNat) : ∀ n, n ≤ L → wA (aSq S P l n) ∧ aSq S P l n 0 = S 0 ∧ aSq S P l n 2 = S 2
  | 0, _ => ⟨w, rfl, rfl⟩
  | n + 1, hn => by
    obtain ⟨h1, h2, h3⟩ := aSq_w w hP hl n (by omega)
    have := hP n (by omega)
    have := hl n (by omega)
    have b0 := w.1.1
    exact ⟨aSit_w h1 (by rw [h3]; omega) (by omega), by rw [show aSq S P l (n + 1) = aSit (aSq S P l n) (P n) (l.getD n 0 : Nat) from rfl, aSit_n (by omega)]; exact h2, by rw [show aSq S P l (n + 1) = aSit (aSq S P l n) (P n) (l.getD n 0 : Nat) from rfl, aSit_n (by omega)]; exact h3⟩
theorem zx_111 {x : zXx} (w : WX x) (z : Int) (hz : zrn z) : zCall 111 209 [.inl (iI z)] x := by
  have wP := w.1.2.2.1
  cases qp : aPy z (x.1 2).toNat
  · refine zCq (-1) w (fun σ h => ?_) (fun σ h => ?_)
    · rw [ez_111]
      simp only [zc114 (d := 61) h.1 wP hz, qp, zbs, zBi, cond_false]
      exact ⟨σ, rfl, zFr_r σ⟩
    · rw [ez_209]
      simp only [zm205 (d := 61) h.1 wP hz, qp, zbs, zBi, cond_false]
      exact ⟨σ, rfl, zFr_r σ, h.1⟩
  have h4 : aCn z (x.1 2).toNat ≤ 4 := (of_decide_eq_true qp).2
  have p0 := wP.1
  have p1 := wP.2.1
  cases q2 : aFs x.1 z with
  | none =>
    refine zCq (-3) w (fun σ h => ?_) (fun σ h => ?_)
    · obtain ⟨τ, g1, g2, -⟩ := zc69 (d := 52) (z := z) w.1 h.1 h4
      have g1 : zev 63 69 [.inr (.inr (0, 35)), .inr (.inr (0, 0)), .inl (iI z)] σ = _ := g1
      rw [q2] at g1
      rw [ez_111]
      simp only [zc114 (d := 61) h.1 wP hz, qp, zbs, zBi, cond_true, g1, Option.isSome, cond_false]
      exact ⟨τ, rfl, g2⟩
    · obtain ⟨τ, g1, g2, g3, -⟩ := zm207 (d := 49) (z := z) w.1 h.1 h4
      have g1 : zev 63 207 [.inr (.inr (0, 60)), .inl (iI z)] σ = _ := g1
      rw [q2] at g1
      rw [ez_209]
      simp only [zm205 (d := 61) h.1 wP hz, qp, zbs, zBi, cond_true, g1, Option.isSome, cond_false]
      exact ⟨τ, rfl, g2, g3⟩
  | some l =>
    have hl := aSf_l _ 0 l q2
    have hP : ∀ j, j < aCn z (x.1 2).toNat → aPm z (x.1 2).toNat j < (x.1 2).toNat := fun j hj => aPm_b _ j hj
    have hg : ∀ j, j < aCn z (x.1 2).toNat → l.getD j 0 < (x.1 0).toNat := fun j hj => by
      have hj' : j < l.length := by rw [hl.1]; exact hj
      refine hl.2 _ ?_
      exact gDm l j hj'
    have wq := aSq_w w.1 hP hg
    have b0 := w.1.1.1
    have b1 := w.1.1.2.1
    have wKq : ∀ (n u : Nat), u < 52 → aSq x.1 (aPm z (x.1 2).toNat) l n u = x.1 u := by
      intro n
      induction n with
      | zero => intro u _; rfl
      | succ n ih => intro u hu; exact (aSit_n (by omega)).trans (ih u hu)
    refine zCs (aSq x.1 (aPm z (x.1 2).toNat) l (aCn z (x.1 2).toNat)) (iI (aCn z (x.1 2).toNat : Nat)) w (wq _ (Nat.le_refl _)).1 (wK_c w.2.2.2.2.2.2.1 w.1.1 (wKq _ 0 (by decide)) (fun u _ hu _ => wKq _ u hu)) (fun σ h => ?_) (fun σ h => ?_)
    · obtain ⟨τ, g1, g2, g3, g4, g5⟩ := zc69 (d := 52) (z := z) w.1 h.1 h4
      have g1 : zev 63 69 [.inr (.inr (0, 35)), .inr (.inr (0, 0)), .inl (iI z)] σ = _ := g1
      rw [q2] at g1
      have hA : cA 0 x.1 τ := (RC_s h g2).1
      have key : ∀ (m k : Nat) (τ : zM) (d1 : Option zV), k + m = aCn z (x.1 2).toNat → cA 0 (aSq x.1 (aPm z (x.1 2).toNat) l k) τ → τ.1 0 35 0 = iI (aCn z (x.1 2).toNat : Nat) → (∀ i, i < aCn z (x.1 2).toNat → τ.1 0 36 i = iI (aPm z (x.1 2).toNat i : Nat) ∧ τ.1 0 37 i = iI (l.getD i 0 : Nat)) → ∃ υ, zrun (zev 63) zT_111 30 [some (.inr (.inr (0, 30))), d1, some (.inl (iI k))] [] τ = some (iI (aCn z (x.1 2).toNat : Nat), 0, υ) ∧ zFr (fun g k _ => g = 0 ∧ k = 18) τ υ ∧ cA 0 (aSq x.1 (aPm z (x.1 2).toNat) l (aCn z (x.1 2).toNat)) υ := by
        intro m
        induction m with
        | zero =>
          intro k τ d1 hk hA h35 h3
          obtain rfl : k = aCn z (x.1 2).toNat := by omega
          rw [ez_111_30, h35, if_neg (by rw [iI_lt (by omega) (by omega)]; omega)]
          exact ⟨τ, rfl, zFr_r τ, hA⟩
        | succ m ih =>
          intro k τ d1 hk hA h35 h3
          have h3k := h3 k (by omega)
          have hPk := hP k (by omega)
          rw [ez_111_30, h35, if_pos (by rw [iI_lt (by omega) (by omega)]; omega), zgd_t (iI_ink (z := k) (k := k) rfl (show k < 4 by omega) (by decide)), zgd_t (iI_ink (z := k) (k := k) rfl (show k < 4 by omega) (by decide)), iI_Nn (show k ≤ 2147483647 by omega), h3k.1, h3k.2, zgd_t (iI_ink (z := (aPm z (x.1 2).toNat k : Nat)) (k := aPm z (x.1 2).toNat k) rfl (by omega) (by decide)), iI_Nn (show aPm z (x.1 2).toNat k ≤ 2147483647 by omega), hki1]
          have hA2 := cA_sit (p := aPm z (x.1 2).toNat k) (z := ((l.getD k 0 : Nat) : Int)) hA (wq k (by omega)).1 (by omega)
          rw [show cE ((l.getD k 0 : Nat) : Int) = (l.getD k 0 : Nat) from if_neg (by omega)] at hA2
          obtain ⟨υ, y1, y2, y3⟩ := ih (k + 1) _ none (by omega) hA2 (by rw [zfe (by omega)]; exact h35) (fun i hi => by rw [zfe (by omega), zfe (by omega)]; exact h3 i hi)
          exact ⟨υ, y1, zFr_tt (zFr_w (by omega)) y2, y3⟩
      obtain ⟨υ, y1, y2, y3⟩ := key (aCn z (x.1 2).toNat) 0 τ (some (.inl (iI z))) (by omega) hA g3 (fun i hi => ⟨g4 i hi, g5 l q2 i hi⟩)
      have y1 : zrun (zev 63) zT_111 30 [some (.inr (.inr (0, 30))), some (.inl (iI z)), some (.inl 0)] [] τ = _ := y1
      rw [ez_111]
      simp only [zc114 (d := 61) h.1 wP hz, qp, zbs, zBi, cond_true, g1, Option.isSome, y1]
      exact ⟨υ, rfl, zFr_tt (zFr_i g2 fun _ _ _ q => by omega) (zFr_i y2 fun _ _ _ q => by omega), y3⟩
    · obtain ⟨τ, g1, g2, g3, g4, g5, g6⟩ := zm207 (d := 49) (z := z) w.1 h.1 h4
      have g1 : zev 63 207 [.inr (.inr (0, 60)), .inl (iI z)] σ = _ := g1
      rw [q2] at g1
      have key : ∀ (m k : Nat) (τ : zM) (d1 : Option zV), k + m = aCn z (x.1 2).toNat → mS 61 (aSq x.1 (aPm z (x.1 2).toNat) l k) τ → τ.1 0 60 11 = iI (aCn z (x.1 2).toNat : Nat) → (∀ i, i < aCn z (x.1 2).toNat → τ.1 0 68 i = iI (aPm z (x.1 2).toNat i : Nat) ∧ τ.1 0 70 i = iI (l.getD i 0 : Nat)) → ∃ υ, zrun (zev 63) zT_209 23 [some (.inr (.inr (0, 60))), d1, some (.inl (iI k))] [] τ = some (iI (aCn z (x.1 2).toNat : Nat), 0, υ) ∧ zFr (fun g k _ => g = 0 ∧ k = 61) τ υ ∧ mS 61 (aSq x.1 (aPm z (x.1 2).toNat) l (aCn z (x.1 2).toNat)) υ := by
        intro m
        induction m with
        | zero =>
          intro k τ d1 hk hS h11 h3
          obtain rfl : k = aCn z (x.1 2).toNat := by omega
          rw [ez_209_23, h11, if_neg (by rw [iI_lt (by omega) (by omega)]; omega)]
          exact ⟨τ, rfl, zFr_r τ, hS⟩
        | succ m ih =>
          intro k τ d1 hk hS h11 h3
          have h3k := h3 k (by omega)
          have hPk := hP k (by omega)
          have e180 : zev 63 180 [.inr (.inr (0, 60)), .inl (iI (aPm z (x.1 2).toNat k : Nat)), .inl (iI (l.getD k 0 : Nat))] τ = some (0, 0, zwI τ 0 61 (54 + 3 * aPm z (x.1 2).toNat k) (iI (((l.getD k 0 : Nat) : Int) + 1))) := zm180 (d := 61) (by omega)
          rw [ez_209_23, h11, if_pos (by rw [iI_lt (by omega) (by omega)]; omega), zgd_t (iI_ink (z := k) (k := k) rfl (show k < 8 by omega) (by decide)), zgd_t (iI_ink (z := k) (k := k) rfl (show k < 8 by omega) (by decide)), iI_Nn (show k ≤ 2147483647 by omega), h3k.1, h3k.2, e180]
          simp only [zbs, hki1]
          obtain ⟨υ, y1, y2, y3⟩ := ih (k + 1) _ none (by omega) (mS_up hS) (by rw [zfe (by omega)]; exact h11) (fun i hi => by rw [zfe (by omega), zfe (by omega)]; exact h3 i hi)
          exact ⟨υ, y1, zFr_tt (zFr_w (by omega)) y2, y3⟩
      obtain ⟨υ, y1, y2, y3⟩ := key (aCn z (x.1 2).toNat) 0 τ (some (.inl (iI z))) (by omega) g3 g4 (fun i hi => ⟨g5 i hi, g6 l q2 i hi⟩)
      have y1 : zrun (zev 63) zT_209 23 [some (.inr (.inr (0, 60))), some (.inl (iI z)), some (.inl 0)] [] τ = _ := y1
      rw [ez_209]
      simp only [zm205 (d := 61) h.1 wP hz, qp, zbs, zBi, cond_true, g1, Option.isSome, y1]
      exact ⟨υ, rfl, zFr_tt g2 (zFr_i y2 fun _ _ _ q => by omega), y3⟩
theorem aCk_c {S T : zS} (w : wA S) (h : ∀ i, i ≠ 6 → T i = S i) : aCk T = aCk S := by
  have b1 := w.1.2.1
  have e0 : T 0 = S 0 := h 0 (by omega)
  have : zcr (aCr T (aSp T)) ((T 0).toNat) = zcr (aCr S (aSp S)) ((S 0).toNat) := by
    rw [e0]
    refine zcr_c fun i hi => ?_
    have e1 : aSp T i = aSp S i := by
      unfold aSp
      rw [aHold_c (by omega) (fun j hj => h j (by have : dH j := hj; omega)), aBear_c w.1 w.2.2.1 hi (h 2 (by omega)) (h 5 (by omega)) (fun j _ _ _ => h j (by omega)) (fun j _ _ => h j (by omega))]
    unfold aCr aBrk
    rw [e1, h (11 + 5 * i) (by omega)]
  unfold aCk
  rw [this]
def oA (p : Nat → Bool) : Nat → Int → Nat → Nat
  | 0, _, c => c
  | n + 1, z, c => oA p n (aDz z) (bif p (aWv (aDz z)).toNat then c + 1 else c)
theorem zx_121 {x : zXx} (w : WX x) (n : Int) (hn : zrn n) : zCall 121 225 [.inl (iI n)] x := by
  have c1 : ∀ {σ : zM}, zev 63 141 [.inl (iI n), .inl 1, .inl 60] σ = some (zB (decide (1 ≤ n ∧ n ≤ 60)), 0, σ) := zc141 (l := 1) (h := 60) hn (by decide) (by decide)
  have m1 : ∀ {σ : zM}, zev 63 149 [.inr (.inl (Int32.toInt64 (iI n))), .inr (.inl 1), .inr (.inl 60)] σ = some (zB (decide (1 ≤ n ∧ n ≤ 60)), 0, σ) := zm149k (l := 1) (h := 60) hn (by decide) (by decide)
  by_cases q1 : 1 ≤ n ∧ n ≤ 60
  case neg =>
    refine zCq (-1) w (fun σ h => ?_) (fun σ h => ?_)
    · rw [ez_121]
      simp only [c1, zbs, zBi, decide_eq_false q1, cond_false]
      exact ⟨σ, rfl, zFr_r σ⟩
    · rw [ez_225]
      simp only [m1, zbs, zBi, decide_eq_false q1, cond_false]
      exact ⟨σ, rfl, zFr_r σ, h.1⟩
  obtain ⟨N', rfl⟩ := zint (show 0 ≤ n by omega)
  have wS := w.1
  refine zCq (iI (oA (fun v => aCk (zup x.1 5 v)) N' (x.1 6) 0 : Nat)) w (fun σ h => ?_) (fun σ h => ?_)
  · obtain ⟨τ, g1, g2, g3⟩ := zc25 (d := 57) (g := 1) (by decide) w.1 h.1
    have g1 : zev 62 25 [.inr (.inr (1, 0)), .inr (.inr (0, 0))] σ = _ := g1
    obtain ⟨υ, f1, f2⟩ := zc109 wS 10 0 x.1 τ (by omega) (fun _ => rfl) wS g3
    have f1 : zrun (zev 62) zT_109 15 [some (.inr (.inr (0, 30))), some (.inl 0), some (.inl 0)] [] τ = _ := f1
    have e109 : zev 63 109 [.inr (.inr (0, 30))] σ = some (zcr (fun v => aCk (zup x.1 5 v)) 10, 0, υ) := by
      rw [ez_109]
      simp only [g1, zbs]
      exact f1
    have hz : υ.1 0 0 3 = iI (x.1 6) := (f2.1 _ _ _ (by omega)).trans ((g2.1 _ _ _ (by omega)).trans h.1.2.2.2.2.2.2)
    have key : ∀ (m k c : Nat) (z : Int) (d0 : Option zV), k + m = N' → c ≤ k → zrun (zev 63) zT_121 31 [d0, some (.inl (iI N')), some (.inl (zcr (fun v => aCk (zup x.1 5 v)) 10)), some (.inl (iI z)), some (.inl (iI c)), some (.inl (iI k))] [] υ = some (iI (oA (fun v => aCk (zup x.1 5 v)) m z c : Nat), 0, υ) := by
      intro m
      induction m with
      | zero =>
        intro k c z d0 hk hc
        rw [ez_121_31, if_neg (by rw [iI_lt (by omega) (by omega)]; omega)]
        rfl
      | succ m ih =>
        intro k c z d0 hk hc
        have hr := aWv_r (aDz z)
        obtain ⟨v, hv⟩ := zint hr.1
        have e1 : zev 63 122 [.inl (iI z)] υ = some (iI (aDz z), 0, υ) := by rw [ez_122, aDz_e]
        have e2 : zev 63 123 [.inl (iI (aDz z))] υ = some (iI v, 0, υ) := by
          rw [ez_123, ← hv, aWv_e]; rfl
        have eg : oA (fun v => aCk (zup x.1 5 v)) (m + 1) z c = oA (fun v => aCk (zup x.1 5 v)) m (aDz z) (bif aCk (zup x.1 5 (aWv (aDz z)).toNat) then c + 1 else c) := rfl
        rw [eg, ez_121_31, if_pos (by rw [iI_lt (by omega) (by omega)]; omega)]
        simp only [e1, e2, zbs, zc145 (d := 62) (show v < 32 by omega), zcr_b 10 (by decide) v (by omega), decide_eq_true (show v < 10 by omega), Bool.true_and, zBi, hki1, hv, Int.toNat_natCast]
        cases aCk (zup x.1 5 v)
        · exact ih (k + 1) c (aDz z) none (by omega) (by omega)
        · exact ih (k + 1) (c + 1) (aDz z) none (by omega) (by omega)
    have k1 := key N' 0 0 (x.1 6) (some (.inr (.inr (0, 30)))) (by omega) (Nat.le_refl _)
    rw [ez_121]
    simp only [c1, zbs, zBi, decide_eq_true q1, cond_true, e109, hz]
    exact ⟨υ, k1, zFr_tt (zFr_i g2 fun _ _ _ q => by omega) (zFr_i f2 fun _ _ _ q => by omega)⟩
  · have n6 : Int32.toNatClampNeg 6 = 6 := by decide
    have h3 : ∀ (τ : zM) (v : Int32), (zwI τ 0 61 5 v).1 0 61 5 = v := fun _ _ => zfs
    have h4 : ∀ (τ : zM) (v : Int32), (zwI τ 0 61 6 v).1 0 61 6 = v := fun _ _ => zfs
    have key : ∀ (m k c : Nat) (T : zS) (τ : zM), k + m = N' → c ≤ k → wA T → (∀ i, i ≠ 5 → i ≠ 6 → T i = x.1 i) → mS 61 T τ → zFr WM σ τ → ∃ υ, zrun (zev 63) zT_225 35 [some (.inr (.inr (0, 60))), some (.inl (iI N')), some (.inl (iI (x.1 6))), some (.inl (iI (x.1 5))), some (.inl (iI c)), some (.inl (iI k))] [] τ = some (iI (oA (fun v => aCk (zup x.1 5 v)) m (T 6) c : Nat), 0, υ) ∧ zFr WM σ υ ∧ mS 61 x.1 υ := by
      intro m
      induction m with
      | zero =>
        intro k c T τ hk hc wT hT hS f
        rw [ez_225_35, if_neg (by rw [iI_lt (by omega) (by omega)]; omega)]
        have h2 := mS_up (i := 5) (v := x.1 5) (mS_up (i := 6) (v := x.1 6) hS)
        have e : zup (zup T 6 (x.1 6)) 5 (x.1 5) = x.1 := funext fun i => by
          by_cases a : i = 5
          · subst a; rw [zup_s]
          · rw [zup_n a]
            by_cases b : i = 6
            · subst b; rw [zup_s]
            · rw [zup_n b]; exact hT i a b
        rw [e] at h2
        exact ⟨_, rfl, zFr_tt f (zFr_tt (zFr_w (by omega)) (zFr_w (by omega))), h2⟩
      | succ m ih =>
        intro k c T τ hk hc wT hT hS f
        have hr := aWv_r (aDz (T 6))
        obtain ⟨v, hv⟩ := zint hr.1
        have w1 := wA_z (v := aDz (T 6)) wT (t_rn _)
        have wU : wA (aDr T) := wA_wt (i := 5) w1 (Or.inr rfl) hr
        have h2 := mS_up (i := 5) (v := aWv (aDz (T 6))) (mS_up (i := 6) (v := aDz (T 6)) hS)
        have e224 : zev 63 224 [.inr (.inr (0, 60))] τ = some (iI (aWv (aDz (T 6))), 0, zwI (zwI τ 0 61 6 (iI (aDz (T 6)))) 0 61 5 (iI (aWv (aDz (T 6))))) := by
          rw [ez_224]
          simp only [hS 6 (by decide), n6, h3, h4, zgd_t (show zin 6 320 = true by decide)]
          rw [aWv_e, aDz_e]
          rfl
        have hU : mS 61 (aDr T) (zwI (zwI (zwI τ 0 61 6 (iI (aDz (T 6)))) 0 61 5 (iI (aWv (aDz (T 6))))) 0 61 5 (iI (aWv (aDz (T 6))))) := by
          have := mS_up (i := 5) (v := aWv (aDz (T 6))) h2
          rwa [zup_up] at this
        have hU6 : aDr T 6 = aDz (T 6) := by
          unfold aDr
          rw [zup_n (by omega), zup_s]
        have hU5 : ∀ i, i ≠ 5 → i ≠ 6 → aDr T i = x.1 i := fun i a b => by
          unfold aDr
          rw [zup_n a, zup_n b]; exact hT i a b
        have ek : aCk (aDr T) = aCk (zup x.1 5 v) := by
          refine aCk_c (wA_wt (i := 5) wS (Or.inr rfl) (by omega)) fun i hi => ?_
          by_cases a : i = 5
          · subst a
            unfold aDr
            rw [zup_s, zup_s, hv]
          · rw [zup_n a]; exact hU5 i a hi
        obtain ⟨τ2, g1, g2, g3, g4⟩ := zm166c (d := 57) hU wU
        have g1 : zev 63 166 [.inr (.inr (0, 60))] _ = _ := g1
        obtain ⟨τ3, y1, y2⟩ := zm171 (d := 55) g3 wU g4
        have y1 : zev 63 171 [.inr (.inr (0, 60))] τ2 = _ := y1
        have fr : zFr WM σ τ3 := zFr_tt f (zFr_tt (zFr_tt (zFr_tt (zFr_tt (zFr_w (by omega)) (zFr_w (by omega))) (zFr_w (by omega))) g2) (zFr_i y2 fun _ _ _ q => by omega))
        have eg : oA (fun v => aCk (zup x.1 5 v)) (m + 1) (T 6) c = oA (fun v => aCk (zup x.1 5 v)) m (aDz (T 6)) (bif aCk (zup x.1 5 (aWv (aDz (T 6))).toNat) then c + 1 else c) := rfl
        have a0 : iI (c : Int) + 0 = iI (c : Int) := Int32.add_zero _
        rw [eg, ez_225_35, if_pos (by rw [iI_lt (by omega) (by omega)]; omega)]
        simp only [e224, zbs, g1, y1, zBi, ek, hki1, a0]
        rw [hv, Int.toNat_natCast]
        have ih' := fun c hc => ih (k + 1) c (aDr T) τ3 (by omega) hc wU hU5 (mS_f g3 (zFr_f y2 (fun i => by omega))) fr
        rw [hU6] at ih'
        cases aCk (zup x.1 5 v)
        · exact ih' c (by omega)
        · exact ih' (c + 1) (by omega)
    obtain ⟨υ, y1, y2, y3⟩ := key N' 0 0 x.1 σ (by omega) (Nat.le_refl _) wS (fun _ _ _ => rfl) h.1 (zFr_r σ)
    rw [ez_225]
    simp only [m1, zbs, zBi, decide_eq_true q1, cond_true, h.1 6 (by decide), h.1 5 (by decide)]
    exact ⟨υ, y1, y2, y3⟩
def zCall0 (J J2 : Nat) (as : List zV) (x : zXx) : Prop := ∃ x', WX x' ∧ (∀ σ, RC x σ → ∃ v w τ, zev 64 J (.inr (.inr (0, 30)) :: as) σ = some (v, w, τ) ∧ RC x' τ) ∧ (∀ σ, RM x σ → ∃ v w τ, zev 64 J2 (.inr (.inr (0, 60)) :: as) σ = some (v, w, τ) ∧ RM x' τ)
theorem zCall_0 {J J2 : Nat} {as : List zV} {x : zXx} (h : zCall J J2 as x) : zCall0 J J2 as x := by
  obtain ⟨x', v, w, h1, h2⟩ := h
  exact ⟨x', w, fun σ q => ⟨v, h1 σ q⟩, fun σ q => ⟨v, h2 σ q⟩⟩
theorem zCall2_0 {J J2 : Nat} {as : List zV} {x : zXx} (h : zCall2 J J2 as x) : zCall0 J J2 as x := by
  obtain ⟨x', v, v2, w, h1, h2⟩ := h
  exact ⟨x', w, fun σ q => ⟨v, h1 σ q⟩, fun σ q => ⟨v2, h2 σ q⟩⟩
abbrev W19 : Nat → Nat → Nat → Prop := fun g k i => g = 0 ∧ k = 19 ∧ (i = 3 ∨ i = 4)
def cV (S : zS) (σ : zM) : Prop := cA 0 S σ ∧ cS 0 S (aSp S) σ
theorem cV_f {S : zS} {σ τ : zM} (h : cV S σ) (f : zFr W19 σ τ) : cV S τ := ⟨cA_c h.1 (fun k _ _ _ c => zFr_f f (fun i => by omega)) (f.1 _ _ _ (by omega)), fun b hb => (f.1 _ _ _ (by omega)).trans (h.2 b hb)⟩
theorem zc43s {d r : Nat} {S : zS} {σ : zM} (w : wA S) (h : cV S σ) (hr : r < (S 3).toNat) : ∃ τ, zev (d + 4) 43 [.inr (.inr (0, 19)), .inr (.inr (0, 0)), .inl (iI r)] σ = some (0, 0, τ) ∧ zFr W19 σ τ := by
  have b0 := w.1.1
  have b1 := w.1.2.1
  have r1 := w.2.2.2.1.2.1
  have wr := w.2.2.2.1.2.2 r hr
  have hR := h.1.2.2.2.2.1.2 r hr
  have hg : ∀ {y : zR}, zgd (zin (iI (r : Int)) 6) y = y := fun {y} => zgd_t (iI_ink (z := r) (k := r) rfl (by omega) (by decide))
  have hN : Int32.toNatClampNeg (iI (r : Int)) = r := iI_Nn (by omega)
  obtain ⟨b, hb⟩ := zint wr.1
  rw [hb] at hR wr
  have fin : ∀ (s0 : Int32) (d1 d3 : Option zV), ∃ τ, zrun (zev (d + 3)) zT_43 45 [some (.inr (.inr (0, 19))), d1, some (.inl (iI r)), d3] [.inl s0] σ = some (0, 0, τ) ∧ zFr W19 σ τ := by
    intro s0 d1 d3
    rw [ez_43_45, hg]
    simp only [z272 (d := d + 2), z273 (d := d + 2), zbs]
    split
    · exact ⟨_, rfl, zFr_w (by omega)⟩
    · exact ⟨_, rfl, zFr_w (by omega)⟩
  have e14 : zev (d + 3) 14 [.inr (.inr (0, 1)), .inl (iI b)] σ = some (zB (!aBrk S b), 0, σ) := by
    have := zc14 (d := d + 1) (z := (b : Int)) h.1.1 h.1.2.1 w.1 (by omega)
    rw [decide_eq_true (by omega), Bool.true_and, Int.toNat_natCast] at this
    exact this
  rw [ez_43]
  simp only [hg, hN, hR.1, e14, zbs, zBi, zc29 (d := d) h.1.1 h.1.2.1 w.1 h.2 (aSp_r w), zCk, zc32 (d := d) h.1.1 w.1 h.2 (aSp_r w) (show b < (S 0).toNat by omega)]
  cases aBrk S b
  · rw [Bool.not_false, cond_true]
    cases aCk S
    · rw [cond_false]; exact fin _ _ _
    · rw [cond_true]; exact fin _ _ _
  · rw [Bool.not_true, cond_false]
    exact ⟨_, rfl, zFr_w (by omega)⟩
theorem zc42s {d : Nat} {S : zS} {σ : zM} {a : Int32} (w : wA S) (h : cV S σ) : ∃ τ, zev (d + 5) 42 [.inr (.inr (0, 19)), .inr (.inr (0, 0)), .inl a] σ = some (0, 0, τ) ∧ zFr W19 σ τ := by
  have r0 := w.2.2.2.1.1
  have r1 := w.2.2.2.1.2.1
  have key : ∀ (m k : Nat) (σ : zM), k + m = (S 3).toNat → cV S σ → ∃ τ, zrun (zev (d + 4)) zT_42 14 [some (.inr (.inr (0, 19))), some (.inr (.inr (0, 0))), some (.inl a), some (.inl (iI k))] [] σ = some (0, 0, τ) ∧ zFr W19 σ τ := by
    intro m
    induction m with
    | zero =>
      intro k σ hk h
      rw [ez_42_14, h.1.2.2.2.2.1.1, if_neg (by rw [iI_lt (by omega) (by omega)]; omega)]
      exact ⟨σ, rfl, zFr_r σ⟩
    | succ m ih =>
      intro k σ hk h
      rw [ez_42_14, h.1.2.2.2.2.1.1, if_pos (by rw [iI_lt (by omega) (by omega)]; omega)]
      obtain ⟨τ, g1, g2⟩ := zc43s (d := d) (r := k) w h (by omega)
      simp only [g1, zbs, hki1]
      split
      · exact ih (k + 1) σ (by omega) h
      · obtain ⟨υ, y1, y2⟩ := ih (k + 1) τ (by omega) (cV_f h g2)
        exact ⟨υ, y1, zFr_tt g2 y2⟩
  have f0 : zFr W19 σ (zwI (zwI σ 0 19 3 1) 0 19 4 200) := zFr_tt (zFr_w (by omega)) (zFr_w (by omega))
  obtain ⟨υ, y1, y2⟩ := key (S 3).toNat 0 _ (by omega) (cV_f h f0)
  rw [ez_42]
  exact ⟨υ, y1, zFr_tt f0 y2⟩
theorem zc44s {d : Nat} {σ : zM} : ∃ v, zev (d + 2) 44 [.inr (.inr (0, 19))] σ = some (v, 0, σ) := by
  rw [ez_44]
  simp only [z272 (d := d), zbs]
  exact ⟨_, rfl⟩
def mV (S : zS) (σ : zM) : Prop := mS 61 S σ ∧ mR 65 S (aHold S) σ
abbrev W12 : Nat → Nat → Nat → Prop := fun g k i => g = 0 ∧ (k = 66 ∨ (k = 60 ∧ 12 ≤ i ∧ i ≤ 14))
theorem mV_f {S : zS} {σ τ : zM} (h : mV S σ) (f : zFr W12 σ τ) : mV S τ := ⟨mS_f h.1 (zFr_f f (fun i => by omega)), mR_f h.2 (zFr_f f (fun i => by omega))⟩
theorem zm219 {d b : Nat} {S : zS} {W : Nat} {σ : zM} (w : wA S) (h : mV S σ) (hb : b < (S 0).toNat) (hW : W ≤ 200) : ∃ v τ, zev (d + 7) 219 [.inr (.inr (0, 60)), .inl (iI b), .inl (iI W)] σ = some (zB v, 0, τ) ∧ zFr W12 σ τ := by
  have b0 := w.1.1
  have b1 := w.1.2.1
  obtain ⟨τ, g1, g2, g3⟩ := zm168 (d := d) h.1 w.1 w.2.1 w.2.2.1
  have hS2 : mS 61 S τ := mS_f h.1 (zFr_f g2 (fun i => by omega))
  obtain ⟨τ2, f1, f2, f3⟩ := zm167e (d := d + 2) (x := (W : Int)) (z := (b : Int)) w.1 (by omega) (by omega) hS2 g3
  have f1 : zev (d + 6) 167 [.inr (.inr (0, 60)), .inl (iI b), .inl (iI W)] τ = _ := f1
  have hS3 : mS 61 S τ2 := mS_f hS2 (zFr_f f2 (fun i => by omega))
  have hh3 : mR 65 S (aHold S) τ2 := mR_f (mR_f h.2 (zFr_f g2 (fun i => by omega))) (zFr_f f2 (fun i => by omega))
  have hF : mF S (fun u => aHold S u - (aBear S u + bif aAbI S b u then (W : Int) else 0)) τ2 := ⟨aHold S, _, hh3, f3, fun u hu => by
    have h1 := aHold_b w.1 w.2.1 w.2.2.2.2.1 hu
    have h2 := aBear_b w.1 w.2.1 w.2.2.1 hu
    refine ⟨rfl, by omega, ?_⟩
    show zrn (aBear S u + bif aAbI S b u then (W : Int) else 0)
    cases aAbI S b u
    · rw [cond_false]; omega
    · rw [cond_true]; omega⟩
  have key : ∀ (m k : Nat) (v : Bool) (d1 d2 : Option zV), k + m = (S 0).toNat → ∃ u, zrun (zev (d + 6)) zT_219 15 [some (.inr (.inr (0, 60))), d1, d2, some (.inl (zB v)), some (.inl (iI k))] [] τ2 = some (zB u, 0, τ2) := by
    intro m
    induction m with
    | zero =>
      intro k v d1 d2 hk
      rw [ez_219_15, hS3 0 (by decide), if_neg (by rw [iI_lt (by omega) (by omega)]; omega)]
      refine ⟨v, ?_⟩
      cases v
      · exact zgd_t rfl
      · exact zgd_t rfl
    | succ m ih =>
      intro k v d1 d2 hk
      have e169 : zev (d + 6) 169 [.inr (.inr (0, 60)), .inl (iI k)] τ2 = _ := zm169 (d := d + 2) hS3 w.1 hF (by omega)
      rw [ez_219_15, hS3 0 (by decide), if_pos (by rw [iI_lt (by omega) (by omega)]; omega)]
      simp only [zBi, e169, zbs, hki1]
      cases v
      · rw [cond_false]
        cases aCr S (fun u => aHold S u - (aBear S u + bif aAbI S b u then (W : Int) else 0)) k
        · rw [cond_false]; exact ih (k + 1) false none none (by omega)
        · rw [cond_true]; exact ih (k + 1) true none none (by omega)
      · rw [cond_true]
        exact ih (k + 1) true none none (by omega)
  obtain ⟨v, k1⟩ := key (S 0).toNat 0 false (some (.inl (iI b))) (some (.inl (iI W))) (by omega)
  have k1 : zrun (zev (d + 6)) zT_219 15 [some (.inr (.inr (0, 60))), some (.inl (iI b)), some (.inl (iI W)), some (.inl 0), some (.inl 0)] [] τ2 = _ := k1
  rw [ez_219]
  simp only [g1, f1, zbs]
  exact ⟨v, τ2, k1, zFr_tt (zFr_i g2 fun _ _ _ q => by omega) (zFr_i f2 fun _ _ _ q => by omega)⟩
theorem zm220 {d : Nat} {S : zS} {σ : zM} {a : Int32} (w : wA S) (hS : mS 61 S σ) : ∃ τ, zev (d + 9) 220 [.inr (.inr (0, 60)), .inl a] σ = some (0, 0, τ) ∧ zFr WM σ τ ∧ mS 61 S τ := by
  have b0 := w.1.1
  have b1 := w.1.2.1
  have r0 := w.2.2.2.1.1
  have r1 := w.2.2.2.1.2.1
  obtain ⟨τ, g1, g2, g3, g4⟩ := zm166c (d := d + 2) hS w
  have g1 : zev (d + 8) 166 [.inr (.inr (0, 60))] σ = _ := g1
  have j2 : ∀ z : Nat, (2 : Int32) * iI z = iI ((2 * z : Nat) : Int) := fun z => by
    show iI 2 * iI z = _
    rw [iI_mul]; congr 1
  have j76 : ∀ z : Nat, (76 : Int32) + iI z = iI ((76 + z : Nat) : Int) := fun z => by
    show iI 76 + iI z = _
    rw [iI_add]; congr 1
  have hm : ∀ (m k : Nat) (a3 : Int32) (d3 d4 d5 : Option zV) (σ : zM), k + m = 201 → 1 ≤ k → mV S σ → ∃ τ, zrun (zev (d + 8)) zT_220 11 [some (.inr (.inr (0, 60))), some (.inl a), some (.inl (iI k)), d3, d4, d5] [] σ = some (0, 0, τ) ∧ zFr W12 σ τ := by
    intro m
    induction m with
    | zero =>
      intro k a3 d3 d4 d5 σ hk _ h
      rw [ez_220_11, if_neg (by show ¬ iI k < iI 201; rw [iI_lt (by omega) (by omega)]; omega)]
      exact ⟨σ, rfl, zFr_r σ⟩
    | succ m ih =>
      intro k a3 d3 d4 d5 σ hk h1 h
      have end112 : ∀ (a3 : Int32) (d4 d5 : Option zV) (σ : zM), mV S σ → ∃ τ, zrun (zev (d + 8)) zT_220 112 [some (.inr (.inr (0, 60))), some (.inl a), some (.inl (iI k)), some (.inl a3), d4, d5] [] σ = some (0, 0, τ) ∧ zFr W12 σ τ := by
        intro a3 d4 d5 σ h
        rw [ez_220_112]
        simp only [hki1]
        split
        · exact ih (k + 1) 0 _ _ _ σ (by omega) (by omega) h
        · split
          · have f0 : zFr W12 σ (zwI (zwI (zwI σ 0 60 13 (iI k)) 0 60 14 (iI k)) 0 60 12 ((zwI (zwI σ 0 60 13 (iI k)) 0 60 14 (iI k)).1 0 60 12 + 1)) := zFr_tt (zFr_tt (zFr_w (by omega)) (zFr_w (by omega))) (zFr_w (by omega))
            obtain ⟨υ, y1, y2⟩ := ih (k + 1) 0 (some (.inl a3)) none none _ (by omega) (by omega) (mV_f h f0)
            exact ⟨υ, y1, zFr_tt f0 y2⟩
          · have f0 : zFr W12 σ (zwI (zwI (zwI σ 0 60 13 (σ.1 0 60 13)) 0 60 14 (iI k)) 0 60 12 ((zwI (zwI σ 0 60 13 (σ.1 0 60 13)) 0 60 14 (iI k)).1 0 60 12 + 1)) := zFr_tt (zFr_tt (zFr_w (by omega)) (zFr_w (by omega))) (zFr_w (by omega))
            obtain ⟨υ, y1, y2⟩ := ih (k + 1) 0 (some (.inl a3)) none none _ (by omega) (by omega) (mV_f h f0)
            exact ⟨υ, y1, zFr_tt f0 y2⟩
      have row : ∀ (n r : Nat) (a3 : Int32) (d5 : Option zV) (σ : zM), r + n = (S 3).toNat → mV S σ → ∃ τ, zrun (zev (d + 8)) zT_220 23 [some (.inr (.inr (0, 60))), some (.inl a), some (.inl (iI k)), some (.inl a3), some (.inl (iI r)), d5] [] σ = some (0, 0, τ) ∧ zFr W12 σ τ := by
        intro n
        induction n with
        | zero =>
          intro r a3 d5 σ hr h
          rw [ez_220_23, h.1 3 (by decide), if_neg (by rw [iI_lt (by omega) (by omega)]; omega)]
          exact end112 a3 _ none σ h
        | succ n ih2 =>
          intro r a3 d5 σ hr h
          have wr := w.2.2.2.1.2.2 r (by omega)
          obtain ⟨b, hb⟩ := zint wr.1
          rw [hb] at wr
          have wb := w.1.2.2 b (by omega)
          have e1 : ∀ {y : zR}, zgd (zin (iI ((76 + 2 * r : Nat) : Int)) 320) y = y := fun {y} => zgd_t (iI_ink (z := ((76 + 2 * r : Nat) : Int)) (k := 76 + 2 * r) rfl (by omega) (by decide))
          have e2 : ∀ {y : zR}, zgd (zin (iI ((76 + 2 * r + 1 : Nat) : Int)) 320) y = y := fun {y} => zgd_t (iI_ink (z := ((76 + 2 * r + 1 : Nat) : Int)) (k := 76 + 2 * r + 1) rfl (by omega) (by decide))
          have n1 : Int32.toNatClampNeg (iI ((76 + 2 * r : Nat) : Int)) = 76 + 2 * r := iI_Nn (by omega)
          rw [ez_220_23, h.1 3 (by decide), if_pos (by rw [iI_lt (by omega) (by omega)]; omega)]
          by_cases q0 : a3 = 0
          · rw [if_pos q0]
            exact end112 a3 _ none σ h
          rw [if_neg q0]
          obtain ⟨v, τ, y1, y2⟩ := zm219 (d := d + 1) (b := b) (W := k) w h (by omega) (by omega)
          have y1 : zev (d + 8) 219 [.inr (.inr (0, 60)), .inl (iI b), .inl (iI k)] σ = _ := y1
          have e57 : zev (d + 8) 157 [.inr (.inr (0, 60)), .inl (iI b)] σ = some (zB (aBrk S b), 0, σ) := zm157 (d := d + 5) h.1 (by omega) (by omega)
          simp only [j2, j76, e1, n1, h.1 (76 + 2 * r) (by omega), hb, e57, zbs, zBi, y1, hki1, e2]
          have go : ∀ (a3 : Int32) (d5 : Option zV), ∃ τ', zrun (zev (d + 8)) zT_220 23 [some (.inr (.inr (0, 60))), some (.inl a), some (.inl (iI k)), some (.inl a3), some (.inl (iI ((r + 1 : Nat) : Int))), d5] [] τ = some (0, 0, τ') ∧ zFr W12 σ τ' := fun a3 d5 => by
            obtain ⟨υ, x1, x2⟩ := ih2 (r + 1) a3 d5 τ (by omega) (mV_f h y2)
            exact ⟨υ, x1, zFr_tt y2 x2⟩
          split
          · exact ih2 (r + 1) _ _ σ (by omega) h
          · cases aBrk S b
            · rw [cond_false]
              cases v <;> simp only [cond_true, cond_false] <;> repeat' split
              all_goals exact go _ _
            · rw [cond_true]
              exact ih2 (r + 1) _ _ σ (by omega) h
      rw [ez_220_11, if_pos (by show iI k < iI 201; rw [iI_lt (by omega) (by omega)]; omega)]
      exact row (S 3).toNat 0 1 none σ (by omega) h
  have f0 : zFr W12 τ (zwI τ 0 60 12 0) := zFr_w (by omega)
  obtain ⟨υ, y1, y2⟩ := hm 200 1 0 none none none (zwI τ 0 60 12 0) (by omega) (by omega) (mV_f ⟨g3, g4⟩ f0)
  have y1 : zrun (zev (d + 8)) zT_220 11 [some (.inr (.inr (0, 60))), some (.inl a), some (.inl 1), none, none, none] [] (zwI τ 0 60 12 0) = _ := y1
  rw [ez_220]
  simp only [g1, zbs]
  have f2 := zFr_tt f0 y2
  exact ⟨υ, y1, zFr_tt g2 (zFr_i f2 fun _ _ _ q => by omega), mS_f g3 (zFr_f f2 (fun i => by omega))⟩
theorem zC0q {J J2 : Nat} {as : List zV} {x : zXx} (w : WX x) (h1 : ∀ σ, RC x σ → ∃ v τ, zev 64 J (.inr (.inr (0, 30)) :: as) σ = some (v, 0, τ) ∧ zFr WC σ τ) (h2 : ∀ σ, RM x σ → ∃ v τ, zev 64 J2 (.inr (.inr (0, 60)) :: as) σ = some (v, 0, τ) ∧ zFr WM σ τ ∧ mS 61 x.1 τ) : zCall0 J J2 as x := by
  refine ⟨x, w, fun σ h => ?_, fun σ h => ?_⟩
  · obtain ⟨v, τ, a, b⟩ := h1 σ h
    exact ⟨v, 0, τ, a, RC_s h b⟩
  · obtain ⟨v, τ, a, b, c⟩ := h2 σ h
    exact ⟨v, 0, τ, a, RM_s h b c⟩
theorem zx_117s {x : zXx} (w : WX x) (c : Int) (hc : zrn c) : zCall0 117 221 [.inl (iI c)] x := by
  have c1 : ∀ {σ : zM}, zev 63 141 [.inl (iI c), .inl 0, .inl 2] σ = some (zB (decide (0 ≤ c ∧ c ≤ 2)), 0, σ) := zc141 (l := 0) (h := 2) hc (by decide) (by decide)
  have m1 : ∀ {σ : zM}, zev 63 149 [.inr (.inl (Int32.toInt64 (iI c))), .inr (.inl 0), .inr (.inl 2)] σ = some (zB (decide (0 ≤ c ∧ c ≤ 2)), 0, σ) := zm149k (l := 0) (h := 2) hc (by decide) (by decide)
  refine zC0q w (fun σ h => ?_) (fun σ h => ?_)
  · obtain ⟨τ, g1, g2, g3, g4, -⟩ := zc27k (d := 58) h.1 w.1
    have g1 : zev 63 27 [.inr (.inr (0, 0))] σ = _ := g1
    obtain ⟨τ2, f1, f2⟩ := zc42s (d := 58) (a := -9) w.1 ⟨g3, g4⟩
    have f1 : zev 63 42 [.inr (.inr (0, 19)), .inr (.inr (0, 0)), .inl (-9)] τ = _ := f1
    obtain ⟨v, e44⟩ := zc44s (d := 61) (σ := τ2)
    have e44 : zev 63 44 [.inr (.inr (0, 19))] τ2 = _ := e44
    have fr : zFr WC σ τ2 := zFr_tt (zFr_i g2 fun _ _ _ q => by omega) (zFr_i f2 fun _ _ _ q => by omega)
    rw [ez_117]
    simp only [c1, zbs, zBi, g1, f1, e44]
    cases decide (0 ≤ c ∧ c ≤ 2)
    · exact ⟨_, σ, rfl, zFr_r σ⟩
    · rw [cond_true]
      repeat' split
      all_goals exact ⟨_, τ2, rfl, fr⟩
  · obtain ⟨τ, g1, g2, g3⟩ := zm220 (d := 54) (a := -1) w.1 h.1
    have g1 : zev 63 220 [.inr (.inr (0, 60)), .inl (-1)] σ = _ := g1
    rw [ez_221]
    simp only [m1, zbs, zBi, g1]
    cases decide (0 ≤ c ∧ c ≤ 2)
    · exact ⟨_, σ, rfl, zFr_r σ, h.1⟩
    · rw [cond_true]
      repeat' split
      all_goals exact ⟨_, τ, rfl, g2, g3⟩
theorem zx_118s {x : zXx} (w : WX x) : zCall0 118 222 [] x := by
  have r0 := w.1.2.2.2.1.1
  have r1 := w.1.2.2.2.1.2.1
  refine zC0q w (fun σ h => ?_) (fun σ h => ?_)
  · obtain ⟨τ, g1, g2, g3, g4, -⟩ := zc27k (d := 58) h.1 w.1
    have g1 : zev 63 27 [.inr (.inr (0, 0))] σ = _ := g1
    obtain ⟨τ2, f1, f2⟩ := zc42s (d := 58) (a := -9) w.1 ⟨g3, g4⟩
    have f1 : zev 63 42 [.inr (.inr (0, 19)), .inr (.inr (0, 0)), .inl (-9)] τ = _ := f1
    obtain ⟨v, e44⟩ := zc44s (d := 61) (σ := τ2)
    have e44 : zev 63 44 [.inr (.inr (0, 19))] τ2 = _ := e44
    have fr : zFr WC σ τ2 := zFr_tt (zFr_i g2 fun _ _ _ q => by omega) (zFr_i f2 fun _ _ _ q => by omega)
    have key : ∀ (m k : Nat) (τ : zM), k + m = (x.1 3).toNat → cV x.1 τ → zFr WC σ τ → ∃ v υ, zrun (zev 63) zT_118 41 [some (.inr (.inr (0, 30))), some (.inl (iI k))] [] τ = some (v, 0, υ) ∧ zFr WC σ υ := by
      intro m
      induction m with
      | zero =>
        intro k τ hk h f
        rw [ez_118_41, h.1.2.2.2.2.1.1, if_neg (by rw [iI_lt (by omega) (by omega)]; omega)]
        exact ⟨_, τ, rfl, f⟩
      | succ m ih =>
        intro k τ hk h f
        obtain ⟨τ2, f1, f2⟩ := zc42s (d := 58) (a := iI k) w.1 h
        have f1 : zev 63 42 [.inr (.inr (0, 19)), .inr (.inr (0, 0)), .inl (iI k)] τ = _ := f1
        obtain ⟨v, e44⟩ := zc44s (d := 61) (σ := τ2)
        have e44 : zev 63 44 [.inr (.inr (0, 19))] τ2 = _ := e44
        have fr : zFr WC σ τ2 := zFr_tt f (zFr_i f2 fun _ _ _ q => by omega)
        rw [ez_118_41, h.1.2.2.2.2.1.1, if_pos (by rw [iI_lt (by omega) (by omega)]; omega)]
        simp only [f1, e44, zbs, hki1]
        split
        · exact ⟨_, τ2, rfl, fr⟩
        · exact ih (k + 1) τ2 (by omega) (cV_f h f2) fr
    obtain ⟨v2, υ, y1, y2⟩ := key (x.1 3).toNat 0 τ2 (by omega) (cV_f ⟨g3, g4⟩ f2) fr
    rw [ez_118]
    simp only [g1, f1, e44, zbs]
    split
    · exact ⟨_, τ2, rfl, fr⟩
    · exact ⟨v2, υ, y1, y2⟩
  · obtain ⟨τ, g1, g2, g3⟩ := zm220 (d := 54) (a := -1) w.1 h.1
    have g1 : zev 63 220 [.inr (.inr (0, 60)), .inl (-1)] σ = _ := g1
    have key : ∀ (m k : Nat) (a1 : Int32) (τ : zM), k + m = (x.1 3).toNat → mS 61 x.1 τ → zFr WM σ τ → ∃ v υ, zrun (zev 63) zT_222 20 [some (.inr (.inr (0, 60))), some (.inl a1), some (.inl (iI k))] [] τ = some (v, 0, υ) ∧ zFr WM σ υ ∧ mS 61 x.1 υ := by
      intro m
      induction m with
      | zero =>
        intro k a1 τ hk hS f
        rw [ez_222_20, hS 3 (by decide), if_neg (by rw [iI_lt (by omega) (by omega)]; omega)]
        exact ⟨_, τ, rfl, f, hS⟩
      | succ m ih =>
        intro k a1 τ hk hS f
        obtain ⟨τ2, f1, f2, f3⟩ := zm220 (d := 54) (a := iI k) w.1 hS
        have f1 : zev 63 220 [.inr (.inr (0, 60)), .inl (iI k)] τ = _ := f1
        rw [ez_222_20, hS 3 (by decide), if_pos (by rw [iI_lt (by omega) (by omega)]; omega)]
        simp only [f1, zbs, hki1]
        split
        · exact ⟨_, τ, rfl, f, hS⟩
        · split
          · exact ⟨_, τ2, rfl, zFr_tt f f2, f3⟩
          · exact ih (k + 1) a1 τ2 (by omega) f3 (zFr_tt f f2)
    rw [ez_222]
    simp only [g1, zbs]
    split
    · exact key (x.1 3).toNat 0 1 τ (by omega) g3 g2
    · exact key (x.1 3).toNat 0 0 τ (by omega) g3 g2
def rB (S : zS) (r : Nat) : Nat := (S (76 + 2 * r)).toNat
def fCf (S : zS) (b : Nat) : Int := bif aCk S then 1 else aRoom S (aSp S) b + 1
def fL1 (S : zS) (r : Nat) (lo : Int) : Int := bif aBrk S (rB S r) then lo else if S (77 + 2 * r) = 1 then (if lo < fCf S (rB S r) then fCf S (rB S r) else lo) else lo
def fH1 (S : zS) (r : Nat) (hi : Int) : Int := bif aBrk S (rB S r) then 0 else if S (77 + 2 * r) = 1 then hi else (if fCf S (rB S r) - 1 < hi then fCf S (rB S r) - 1 else hi)
def fLo (S : zS) (a : Int) : Nat → Int
  | 0 => 1
  | n + 1 => if (n : Int) = a then fLo S a n else fL1 S n (fLo S a n)
def fHi (S : zS) (a : Int) : Nat → Int
  | 0 => 200
  | n + 1 => if (n : Int) = a then fHi S a n else fH1 S n (fHi S a n)
def fNo (S : zS) (a : Int) : Int := if 0 < fHi S a (S 3).toNat - fLo S a (S 3).toNat + 1 then fHi S a (S 3).toNat - fLo S a (S 3).toNat + 1 else 0
theorem fLH_n {S : zS} {a c : Int} (ha : a < 0) (hc : c < 0) : ∀ n : Nat, fLo S a n = fLo S c n ∧ fHi S a n = fHi S c n
  | 0 => ⟨rfl, rfl⟩
  | n + 1 => by
    have ih := fLH_n (S := S) ha hc n
    unfold fLo fHi
    rw [if_neg (by omega), if_neg (by omega), if_neg (by omega), if_neg (by omega), ih.1, ih.2]
    exact ⟨rfl, rfl⟩
theorem fNo_n {S : zS} {a c : Int} (ha : a < 0) (hc : c < 0) : fNo S a = fNo S c := by
  have h := fLH_n (S := S) ha hc (S 3).toNat
  unfold fNo
  rw [h.1, h.2]
theorem aRoom_b {S : zS} {b : Nat} (w : wA S) (hb : b < (S 0).toNat) : 0 ≤ aRoom S (aSp S) b ∧ aRoom S (aSp S) b ≤ 4096 := by
  obtain ⟨u, h1, h2, h3⟩ := aRm_at (S := S) (f := aSp S) (b := b) (S 0).toNat (Nat.le_refl _)
  have hu : u < (S 0).toNat := by rcases h1 with rfl | h1 <;> assumption
  have a1 := aHold_b w.1 w.2.1 w.2.2.2.2.1 hu
  have a2 := aBear_b w.1 w.2.1 w.2.2.1 hu
  have a3 : aSp S u = aHold S u - aBear S u := rfl
  unfold aRoom
  split <;> omega
theorem fCf_b {S : zS} {b : Nat} (w : wA S) (hb : b < (S 0).toNat) : 1 ≤ fCf S b ∧ fCf S b ≤ 4097 := by
  have h := aRoom_b w hb
  unfold fCf
  cases aCk S
  · rw [cond_false]; omega
  · rw [cond_true]; omega
theorem rB_l {S : zS} {r : Nat} (w : wA S) (hr : r < (S 3).toNat) : rB S r < (S 0).toNat ∧ S (76 + 2 * r) = (rB S r : Int) := by
  have h := w.2.2.2.1.2.2 r hr
  unfold rB
  omega
theorem fLH_b {S : zS} {a : Int} (w : wA S) : ∀ n, n ≤ (S 3).toNat → 1 ≤ fLo S a n ∧ fLo S a n ≤ 4097 ∧ 0 ≤ fHi S a n ∧ fHi S a n ≤ 200
  | 0, _ => by
    show 1 ≤ (1 : Int) ∧ (1 : Int) ≤ 4097 ∧ 0 ≤ (200 : Int) ∧ (200 : Int) ≤ 200
    omega
  | n + 1, hn => by
    have ih := fLH_b (a := a) w n (by omega)
    have c := fCf_b w (rB_l w (r := n) (by omega)).1
    unfold fLo fHi
    by_cases q : (n : Int) = a
    · rw [if_pos q, if_pos q]; exact ih
    · rw [if_neg q, if_neg q]
      unfold fL1 fH1
      cases aBrk S (rB S n)
      · rw [cond_false, cond_false]
        by_cases q2 : S (77 + 2 * n) = 1
        · rw [if_pos q2, if_pos q2]
          split <;> omega
        · rw [if_neg q2, if_neg q2]
          split <;> omega
      · rw [cond_true, cond_true]; omega
theorem zc43f {d r : Nat} {S : zS} {lo hi : Int} {σ : zM} (w : wA S) (h : cV S σ) (hr : r < (S 3).toNat) (hl : zrn lo) (hh : zrn hi) (h3 : σ.1 0 19 3 = iI lo) (h4 : σ.1 0 19 4 = iI hi) : ∃ τ, zev (d + 4) 43 [.inr (.inr (0, 19)), .inr (.inr (0, 0)), .inl (iI r)] σ = some (0, 0, τ) ∧ zFr W19 σ τ ∧ τ.1 0 19 3 = iI (fL1 S r lo) ∧ τ.1 0 19 4 = iI (fH1 S r hi) := by
  have b0 := w.1.1
  have b1 := w.1.2.1
  have r1 := w.2.2.2.1.2.1
  have wr := w.2.2.2.1.2.2 r hr
  have hR := h.1.2.2.2.2.1.2 r hr
  have rb := rB_l w hr
  have c := fCf_b w rb.1
  have hg : ∀ {y : zR}, zgd (zin (iI (r : Int)) 6) y = y := fun {y} => zgd_t (iI_ink (z := r) (k := r) rfl (by omega) (by decide))
  have hN : Int32.toNatClampNeg (iI (r : Int)) = r := iI_Nn (by omega)
  rw [rb.2] at hR
  have fin : ∀ (d1 d3 : Option zV), aBrk S (rB S r) = false → ∃ τ, zrun (zev (d + 3)) zT_43 45 [some (.inr (.inr (0, 19))), d1, some (.inl (iI r)), d3] [.inl (iI (fCf S (rB S r)))] σ = some (0, 0, τ) ∧ zFr W19 σ τ ∧ τ.1 0 19 3 = iI (fL1 S r lo) ∧ τ.1 0 19 4 = iI (fH1 S r hi) := by
    intro d1 d3 hb
    have e1 : (iI (S (77 + 2 * r)) = 1) = (S (77 + 2 * r) = 1) := iI_eq (b := 1) (by omega) (by decide)
    have m1 : iI (fCf S (rB S r)) - 1 = iI (fCf S (rB S r) - 1) := iI_s1 _
    unfold fL1 fH1
    rw [ez_43_45, hg, hb, cond_false, cond_false]
    simp only [hN, hR.2, e1, h3, h4, m1, zc272 (d := d + 2) hl (show zrn (fCf S (rB S r)) by omega), zc273 (d := d + 2) hh (show zrn (fCf S (rB S r) - 1) by omega), zbs]
    by_cases q : S (77 + 2 * r) = 1
    · rw [if_pos q, if_pos q, if_pos q]
      exact ⟨_, rfl, zFr_w (by omega), zfs, by rw [zfe (by omega)]; exact h4⟩
    · rw [if_neg q, if_neg q, if_neg q]
      exact ⟨_, rfl, zFr_w (by omega), by rw [zfe (by omega)]; exact h3, zfs⟩
  have e14 : zev (d + 3) 14 [.inr (.inr (0, 1)), .inl (iI (rB S r : Nat))] σ = some (zB (!aBrk S (rB S r)), 0, σ) := by
    have := zc14 (d := d + 1) (z := (rB S r : Int)) h.1.1 h.1.2.1 w.1 (by omega)
    rw [decide_eq_true (by omega), Bool.true_and, Int.toNat_natCast] at this
    exact this
  rw [ez_43]
  simp only [hg, hN, hR.1, e14, zbs, zBi, zc29 (d := d) h.1.1 h.1.2.1 w.1 h.2 (aSp_r w), zCk, zc32 (d := d) h.1.1 w.1 h.2 (aSp_r w) rb.1]
  cases qb : aBrk S (rB S r)
  · rw [Bool.not_false, cond_true]
    cases qc : aCk S
    · rw [cond_false, iI_a1]
      have e : fCf S (rB S r) = aRoom S (aSp S) (rB S r) + 1 := by unfold fCf; rw [qc]; rfl
      rw [← e]
      exact fin _ _ qb
    · rw [cond_true]
      have e : fCf S (rB S r) = 1 := by unfold fCf; rw [qc]; rfl
      have f := fin (some (.inr (.inr (0, 0)))) none qb
      rw [e] at f
      exact f
  · rw [Bool.not_true, cond_false]
    unfold fL1 fH1
    rw [qb, cond_true, cond_true]
    exact ⟨_, rfl, zFr_w (by omega), by rw [zfe (by omega)]; exact h3, zfs⟩
theorem zc42f {d : Nat} {S : zS} {σ : zM} {a : Int} (w : wA S) (h : cV S σ) (ha : zrn a) : ∃ τ, zev (d + 5) 42 [.inr (.inr (0, 19)), .inr (.inr (0, 0)), .inl (iI a)] σ = some (0, 0, τ) ∧ zFr W19 σ τ ∧ τ.1 0 19 3 = iI (fLo S a (S 3).toNat) ∧ τ.1 0 19 4 = iI (fHi S a (S 3).toNat) := by
  have r0 := w.2.2.2.1.1
  have r1 := w.2.2.2.1.2.1
  have key : ∀ (m k : Nat) (σ : zM), k + m = (S 3).toNat → cV S σ → σ.1 0 19 3 = iI (fLo S a k) → σ.1 0 19 4 = iI (fHi S a k) → ∃ τ, zrun (zev (d + 4)) zT_42 14 [some (.inr (.inr (0, 19))), some (.inr (.inr (0, 0))), some (.inl (iI a)), some (.inl (iI k))] [] σ = some (0, 0, τ) ∧ zFr W19 σ τ ∧ τ.1 0 19 3 = iI (fLo S a (S 3).toNat) ∧ τ.1 0 19 4 = iI (fHi S a (S 3).toNat) := by
    intro m
    induction m with
    | zero =>
      intro k σ hk h h3 h4
      rw [ez_42_14, h.1.2.2.2.2.1.1, if_neg (by rw [iI_lt (by omega) (by omega)]; omega)]
      rw [show k = (S 3).toNat by omega] at h3 h4
      exact ⟨σ, rfl, zFr_r σ, h3, h4⟩
    | succ m ih =>
      intro k σ hk h h3 h4
      have b := fLH_b (a := a) w k (by omega)
      have eq : (iI (k : Int) = iI a) = ((k : Int) = a) := iI_eq (by omega) ha
      have eL : fLo S a (k + 1) = if (k : Int) = a then fLo S a k else fL1 S k (fLo S a k) := rfl
      have eH : fHi S a (k + 1) = if (k : Int) = a then fHi S a k else fH1 S k (fHi S a k) := rfl
      rw [ez_42_14, h.1.2.2.2.2.1.1, if_pos (by rw [iI_lt (by omega) (by omega)]; omega)]
      simp only [eq, hki1]
      by_cases q : (k : Int) = a
      · rw [if_pos q]
        rw [if_pos q] at eL eH
        exact ih (k + 1) σ (by omega) h (by rw [eL]; exact h3) (by rw [eH]; exact h4)
      · rw [if_neg q]
        rw [if_neg q] at eL eH
        obtain ⟨τ, g1, g2, g3, g4⟩ := zc43f (d := d) w h (show k < (S 3).toNat by omega) (by omega) (by omega) h3 h4
        obtain ⟨υ, y1, y2, y3⟩ := ih (k + 1) τ (by omega) (cV_f h g2) (by rw [eL]; exact g3) (by rw [eH]; exact g4)
        simp only [g1, zbs]
        exact ⟨υ, y1, zFr_tt g2 y2, y3⟩
  have f0 : zFr W19 σ (zwI (zwI σ 0 19 3 1) 0 19 4 200) := zFr_tt (zFr_w (by omega)) (zFr_w (by omega))
  obtain ⟨υ, y1, y2, y3⟩ := key (S 3).toNat 0 _ (by omega) (cV_f h f0) (by rw [zfe (by omega), zfs]; rfl) (by rw [zfs]; rfl)
  rw [ez_42]
  exact ⟨υ, y1, zFr_tt f0 y2, y3⟩
theorem zc44f {d : Nat} {S : zS} {a : Int} {σ : zM} (w : wA S) (h3 : σ.1 0 19 3 = iI (fLo S a (S 3).toNat)) (h4 : σ.1 0 19 4 = iI (fHi S a (S 3).toNat)) : zev (d + 2) 44 [.inr (.inr (0, 19))] σ = some (iI (fNo S a), 0, σ) := by
  have b := fLH_b (a := a) w (S 3).toNat (Nat.le_refl _)
  have e := zc272 (d := d) (a := 0) (b := fHi S a (S 3).toNat - fLo S a (S 3).toNat + 1) (σ := σ) (by decide) (by omega)
  have e : zev (d + 1) 272 [.inl 0, .inl (iI (fHi S a (S 3).toNat - fLo S a (S 3).toNat + 1))] σ = _ := e
  rw [ez_44, h3, h4]
  simp only [iI_sub, iI_a1, e, zbs]
  rfl
theorem wK_ab {S : zS} (k : wK S) (w : wB S) {u : Nat} (hu : aBrk S u = true) : ∀ (n c : Nat), c < n → c < (S 0).toNat → aAb S c u = true → aBrk S c = true
  | 0, _, h, _, _ => absurd h (Nat.not_lt_zero _)
  | n + 1, c, h, hc, ha => by
    rw [aAb_u w hc, Bool.or_eq_true] at ha
    rcases ha with ha | ha
    · rw [Nat.eq_of_beq_eq_true ha]; exact hu
    · have w2 := w.2.2 c hc
      by_cases q : 1 ≤ S (8 + 5 * c)
      · obtain ⟨p, hp⟩ := zint (show 0 ≤ S (8 + 5 * c) - 1 by omega)
        rw [show aPar S c = (p : Int) from hp, aAbI_p] at ha
        have ih := wK_ab k w hu n p (by omega) (by omega) ha
        have ih : S (11 + 5 * p) = 1 := of_decide_eq_true ih
        refine decide_eq_true (k c hc q ?_)
        rw [hp, Int.toNat_natCast]
        exact ih
      · rw [aAbI_n (show aPar S c < 0 by show S (8 + 5 * c) - 1 < 0; omega)] at ha
        cases ha
def aAny (p : Nat → Bool) : Nat → Nat → Bool
  | 0, _ => false
  | m + 1, k => p k || aAny p m (k + 1)
theorem aAny_i {p : Nat → Bool} : ∀ (m k : Nat), aAny p m k = true ↔ ∃ i, k ≤ i ∧ i < k + m ∧ p i = true
  | 0, k => ⟨fun h => (by cases h), fun ⟨i, h1, h2, _⟩ => (by omega)⟩
  | m + 1, k => by
    show (p k || aAny p m (k + 1)) = true ↔ _
    rw [Bool.or_eq_true, aAny_i m (k + 1)]
    constructor
    · rintro (h | ⟨i, h1, h2, h3⟩)
      · exact ⟨k, Nat.le_refl _, by omega, h⟩
      · exact ⟨i, by omega, by omega, h3⟩
    · rintro ⟨i, h1, h2, h3⟩
      by_cases e : i = k
      · rw [e] at h3; exact Or.inl h3
      · exact Or.inr ⟨i, by omega, by omega, h3⟩
def fW (S : zS) (b : Nat) (W : Int) (u : Nat) : Int := aHold S u - (aBear S u + bif aAbI S b u then W else 0)
theorem aCk_x {S : zS} (w : wA S) : aCk S = true ↔ ∃ u, u < (S 0).toNat ∧ aSp S u < 0 ∧ aBrk S u = false := by
  have b1 := w.1.2.1
  unfold aCk
  simp only [zcr_0 (show (S 0).toNat ≤ 32 by omega)]
  constructor
  · intro h
    rw [Bool.not_eq_true', decide_eq_false_iff_not] at h
    obtain ⟨u, hu⟩ := Classical.not_forall.mp h
    obtain ⟨h1, h2⟩ := Classical.not_imp.mp hu
    have h3 : aCr S (aSp S) u = true := by cases q : aCr S (aSp S) u with | false => exact absurd q h2 | true => rfl
    unfold aCr at h3
    rw [Bool.and_eq_true, Bool.not_eq_true'] at h3
    exact ⟨u, h1, of_decide_eq_true h3.1, h3.2⟩
  · rintro ⟨u, h1, h2, h3⟩
    rw [Bool.not_eq_true', decide_eq_false_iff_not]
    intro h
    have := h u h1
    unfold aCr at this
    rw [h3, decide_eq_true h2] at this
    cases this
theorem fW_i {S : zS} {b : Nat} {W : Int} (w : wA S) (k : wK S) (hb : b < (S 0).toNat) (hbr : aBrk S b = false) (hW : 1 ≤ W) : aAny (aCr S (fW S b W)) (S 0).toNat 0 = decide (fCf S b ≤ W) := by
  have b1 := w.1.2.1
  have hsp : ∀ u, aSp S u = aHold S u - aBear S u := fun _ => rfl
  have fw : ∀ u, fW S b W u = aSp S u - (bif aAb S b u then W else 0) := fun u => by
    unfold fW
    rw [aAbI_p, hsp]
    omega
  have cr : ∀ u, aCr S (fW S b W) u = true ↔ fW S b W u < 0 ∧ aBrk S u = false := fun u => by
    unfold aCr
    rw [Bool.and_eq_true, Bool.not_eq_true', decide_eq_true_iff]
  rw [Bool.eq_iff_iff, aAny_i, decide_eq_true_iff]
  cases qc : aCk S
  · have hc : fCf S b = aRoom S (aSp S) b + 1 := by unfold fCf; rw [qc]; rfl
    have nn : ∀ u, u < (S 0).toNat → aBrk S u = false → 0 ≤ aSp S u := fun u h1 h2 => by
      by_cases q : aSp S u < 0
      · rw [(aCk_x w).mpr ⟨u, h1, q, h2⟩] at qc; cases qc
      · omega
    rw [hc]
    constructor
    · rintro ⟨u, -, h1, h2⟩
      obtain ⟨h3, h4⟩ := (cr u).mp h2
      have h5 := nn u (by omega) h4
      rw [fw] at h3
      cases qa : aAb S b u
      · rw [qa, cond_false] at h3; omega
      · rw [qa, cond_true] at h3
        have h6 := aRm_le (f := aSp S) (n := (S 0).toNat) (show u < (S 0).toNat by omega) qa
        unfold aRoom
        split <;> omega
    · intro h
      obtain ⟨u, h1, h2, h3⟩ := aRm_at (S := S) (f := aSp S) (b := b) (S 0).toNat (Nat.le_refl _)
      have hu : u < (S 0).toNat := by rcases h1 with rfl | h1 <;> assumption
      have hbu : aBrk S u = false := by
        cases q : aBrk S u with
        | false => rfl
        | true => rw [wK_ab k w.1 q 9 b (by omega) hb h2] at hbr; cases hbr
      have h5 := nn u hu hbu
      refine ⟨u, Nat.zero_le _, by omega, (cr u).mpr ⟨?_, hbu⟩⟩
      rw [fw, h2, cond_true]
      unfold aRoom at h
      split at h <;> omega
  · have hc : fCf S b = 1 := by unfold fCf; rw [qc]; rfl
    rw [hc]
    refine ⟨fun _ => hW, fun _ => ?_⟩
    obtain ⟨u, h1, h2, h3⟩ := (aCk_x w).mp qc
    refine ⟨u, Nat.zero_le _, by omega, (cr u).mpr ⟨?_, h3⟩⟩
    rw [fw]
    cases aAb S b u
    · rw [cond_false]; omega
    · rw [cond_true]; omega
def fOk (S : zS) (a W : Int) : Nat → Bool
  | 0 => true
  | n + 1 => fOk S a W n && (decide ((n : Int) = a) || (!aBrk S (rB S n) && (decide (fCf S (rB S n) ≤ W) == decide (S (77 + 2 * n) = 1))))
theorem bq_t : ∀ b : Bool, (b == true) = b := by decide
theorem bq_f : ∀ b : Bool, (b == false) = !b := by decide
theorem fOk_i {S : zS} {a W : Int} (hW : 1 ≤ W ∧ W ≤ 200) : ∀ n, fOk S a W n = decide (fLo S a n ≤ W ∧ W ≤ fHi S a n)
  | 0 => (decide_eq_true (show (1 : Int) ≤ W ∧ W ≤ 200 from hW)).symm
  | n + 1 => by
    have ih := fOk_i (S := S) (a := a) hW n
    have e : fOk S a W (n + 1) = (fOk S a W n && (decide ((n : Int) = a) || (!aBrk S (rB S n) && (decide (fCf S (rB S n) ≤ W) == decide (S (77 + 2 * n) = 1))))) := rfl
    have eL : fLo S a (n + 1) = if (n : Int) = a then fLo S a n else fL1 S n (fLo S a n) := rfl
    have eH : fHi S a (n + 1) = if (n : Int) = a then fHi S a n else fH1 S n (fHi S a n) := rfl
    rw [e, ih, eL, eH]
    by_cases q : (n : Int) = a
    · rw [if_pos q, if_pos q, decide_eq_true q, Bool.true_or, Bool.and_true]
    · rw [if_neg q, if_neg q, decide_eq_false q, Bool.false_or]
      unfold fL1 fH1
      cases aBrk S (rB S n)
      · rw [cond_false, cond_false, Bool.not_false, Bool.true_and]
        by_cases q2 : S (77 + 2 * n) = 1
        · rw [if_pos q2, if_pos q2, decide_eq_true q2, bq_t, ← Bool.decide_and]
          refine decide_eq_decide.mpr ?_
          split <;> omega
        · rw [if_neg q2, if_neg q2, decide_eq_false q2, bq_f, ← decide_not, ← Bool.decide_and]
          refine decide_eq_decide.mpr ?_
          split <;> omega
      · rw [cond_true, cond_true, Bool.not_true, Bool.false_and, Bool.and_false]
        exact (decide_eq_false (by omega)).symm
theorem fOk_f {S : zS} {a W : Int} {r : Nat} (h : fOk S a W r = false) : ∀ n, fOk S a W (r + n) = false
  | 0 => h
  | n + 1 => by
    show (fOk S a W (r + n) && _) = false
    rw [fOk_f h n, Bool.false_and]
theorem zm219f {d b : Nat} {S : zS} {W : Nat} {σ : zM} (w : wA S) (h : mV S σ) (hb : b < (S 0).toNat) (hW : W ≤ 200) : ∃ τ, zev (d + 7) 219 [.inr (.inr (0, 60)), .inl (iI b), .inl (iI W)] σ = some (zB (aAny (aCr S (fW S b W)) (S 0).toNat 0), 0, τ) ∧ zFr (Wk 0 66) σ τ := by
  have b0 := w.1.1
  have b1 := w.1.2.1
  obtain ⟨τ, g1, g2, g3⟩ := zm168 (d := d) h.1 w.1 w.2.1 w.2.2.1
  have hS2 : mS 61 S τ := mS_f h.1 (zFr_f g2 (fun i => by omega))
  obtain ⟨τ2, f1, f2, f3⟩ := zm167e (d := d + 2) (x := (W : Int)) (z := (b : Int)) w.1 (by omega) (by omega) hS2 g3
  have f1 : zev (d + 6) 167 [.inr (.inr (0, 60)), .inl (iI b), .inl (iI W)] τ = _ := f1
  have hS3 : mS 61 S τ2 := mS_f hS2 (zFr_f f2 (fun i => by omega))
  have hh3 : mR 65 S (aHold S) τ2 := mR_f (mR_f h.2 (zFr_f g2 (fun i => by omega))) (zFr_f f2 (fun i => by omega))
  have hF : mF S (fW S b W) τ2 := ⟨aHold S, _, hh3, f3, fun u hu => by
    have h1 := aHold_b w.1 w.2.1 w.2.2.2.2.1 hu
    have h2 := aBear_b w.1 w.2.1 w.2.2.1 hu
    refine ⟨rfl, by omega, ?_⟩
    show zrn (aBear S u + bif aAbI S b u then (W : Int) else 0)
    cases aAbI S b u
    · rw [cond_false]; omega
    · rw [cond_true]; omega⟩
  have key : ∀ (m k : Nat) (v : Bool) (d1 d2 : Option zV), k + m = (S 0).toNat → zrun (zev (d + 6)) zT_219 15 [some (.inr (.inr (0, 60))), d1, d2, some (.inl (zB v)), some (.inl (iI k))] [] τ2 = some (zB (v || aAny (aCr S (fW S b W)) m k), 0, τ2) := by
    intro m
    induction m with
    | zero =>
      intro k v d1 d2 hk
      rw [ez_219_15, hS3 0 (by decide), if_neg (by rw [iI_lt (by omega) (by omega)]; omega), show (v || aAny (aCr S (fW S b W)) 0 k) = v from Bool.or_false v]
      cases v
      · exact zgd_t rfl
      · exact zgd_t rfl
    | succ m ih =>
      intro k v d1 d2 hk
      have e169 : zev (d + 6) 169 [.inr (.inr (0, 60)), .inl (iI k)] τ2 = _ := zm169 (d := d + 2) hS3 w.1 hF (by omega)
      have eA : aAny (aCr S (fW S b W)) (m + 1) k = (aCr S (fW S b W) k || aAny (aCr S (fW S b W)) m (k + 1)) := rfl
      rw [ez_219_15, hS3 0 (by decide), if_pos (by rw [iI_lt (by omega) (by omega)]; omega), eA]
      simp only [zBi, e169, zbs, hki1]
      cases v
      · rw [cond_false]
        cases aCr S (fW S b W) k
        · rw [cond_false]; exact ih (k + 1) false none none (by omega)
        · rw [cond_true]; exact ih (k + 1) true none none (by omega)
      · rw [cond_true]
        exact ih (k + 1) true none none (by omega)
  have k1 := key (S 0).toNat 0 false (some (.inl (iI b))) (some (.inl (iI W))) (by omega)
  have k1 : zrun (zev (d + 6)) zT_219 15 [some (.inr (.inr (0, 60))), some (.inl (iI b)), some (.inl (iI W)), some (.inl 0), some (.inl 0)] [] τ2 = _ := k1
  rw [ez_219]
  simp only [g1, f1, zbs]
  exact ⟨τ2, k1, zFr_tt g2 f2⟩
def fCt (lo hi k : Int) : Int := if 0 < (if k - 1 < hi then k - 1 else hi) - lo + 1 then (if k - 1 < hi then k - 1 else hi) - lo + 1 else 0
theorem fCt_in {lo hi k : Int} (h : lo ≤ k ∧ k ≤ hi) : fCt lo hi (k + 1) = k - lo + 1 := by
  unfold fCt
  repeat' split
  all_goals omega
theorem fCt_at {lo hi : Int} : fCt lo hi lo = 0 := by
  unfold fCt
  repeat' split
  all_goals omega
theorem fCt_bf {lo hi k : Int} (h : lo < k ∧ k ≤ hi) : fCt lo hi k = k - lo := by
  unfold fCt
  repeat' split
  all_goals omega
theorem fCt_out {lo hi k : Int} (h : ¬ (lo ≤ k ∧ k ≤ hi)) : fCt lo hi (k + 1) = fCt lo hi k := by
  unfold fCt
  repeat' split
  all_goals omega
theorem fCt_lo {lo hi k : Int} (h : k ≤ lo) : fCt lo hi k = 0 := by
  unfold fCt
  repeat' split
  all_goals omega
theorem fCt_ol {lo hi k : Int} (h : ¬ (lo ≤ k ∧ k ≤ hi)) (z : 0 < fCt lo hi k) : (if k + 1 - 1 < hi then k + 1 - 1 else hi) = (if k - 1 < hi then k - 1 else hi) := by
  by_cases q : k ≤ lo
  · rw [fCt_lo q] at z; omega
  · rw [if_neg (by omega), if_neg (by omega)]
theorem fCt_one {lo hi : Int} (h : 1 ≤ lo) : fCt lo hi 1 = 0 := by
  unfold fCt
  repeat' split
  all_goals omega
def mFt (lo hi k : Int) (σ : zM) : Prop := σ.1 0 60 12 = iI (fCt lo hi k) ∧ (0 < fCt lo hi k → σ.1 0 60 13 = iI lo ∧ σ.1 0 60 14 = iI (if k - 1 < hi then k - 1 else hi))
theorem mFt_f {lo hi k : Int} {σ τ : zM} (h : mFt lo hi k σ) (f : zFr (Wk 0 66) σ τ) : mFt lo hi k τ := by
  unfold mFt
  rw [f.1 0 60 12 (by omega), f.1 0 60 13 (by omega), f.1 0 60 14 (by omega)]
  exact h
theorem zm220f {d : Nat} {S : zS} {σ : zM} {a : Int} (w : wA S) (kk : wK S) (hS : mS 61 S σ) (ha : zrn a) : ∃ τ, zev (d + 9) 220 [.inr (.inr (0, 60)), .inl (iI a)] σ = some (0, 0, τ) ∧ zFr WM σ τ ∧ mS 61 S τ ∧ mFt (fLo S a (S 3).toNat) (fHi S a (S 3).toNat) 201 τ := by
  have b0 := w.1.1
  have b1 := w.1.2.1
  have r0 := w.2.2.2.1.1
  have r1 := w.2.2.2.1.2.1
  have bd := fLH_b (a := a) w (S 3).toNat (Nat.le_refl _)
  generalize hlo : fLo S a (S 3).toNat = lo at bd ⊢
  generalize hhi : fHi S a (S 3).toNat = hi at bd ⊢
  obtain ⟨τ, g1, g2, g3, g4⟩ := zm166c (d := d + 2) hS w
  have g1 : zev (d + 8) 166 [.inr (.inr (0, 60))] σ = _ := g1
  have j2 : ∀ z : Nat, (2 : Int32) * iI z = iI ((2 * z : Nat) : Int) := fun z => by
    show iI 2 * iI z = _
    rw [iI_mul]; congr 1
  have j76 : ∀ z : Nat, (76 : Int32) + iI z = iI ((76 + z : Nat) : Int) := fun z => by
    show iI 76 + iI z = _
    rw [iI_add]; congr 1
  have hm : ∀ (m k : Nat) (d3 d4 d5 : Option zV) (σ : zM), k + m = 201 → 1 ≤ k → mV S σ → mFt lo hi k σ → ∃ τ, zrun (zev (d + 8)) zT_220 11 [some (.inr (.inr (0, 60))), some (.inl (iI a)), some (.inl (iI k)), d3, d4, d5] [] σ = some (0, 0, τ) ∧ zFr W12 σ τ ∧ mFt lo hi 201 τ := by
    intro m
    induction m with
    | zero =>
      intro k d3 d4 d5 σ hk _ h hf
      rw [ez_220_11, if_neg (by show ¬ iI k < iI 201; rw [iI_lt (by omega) (by omega)]; omega)]
      rw [show k = 201 by omega] at hf
      exact ⟨σ, rfl, zFr_r σ, hf⟩
    | succ m ih =>
      intro k d3 d4 d5 σ hk h1 h hf
      have end112 : ∀ (d4 d5 : Option zV) (σ : zM), mV S σ → mFt lo hi k σ → ∃ τ, zrun (zev (d + 8)) zT_220 112 [some (.inr (.inr (0, 60))), some (.inl (iI a)), some (.inl (iI k)), some (.inl (zB (fOk S a k (S 3).toNat))), d4, d5] [] σ = some (0, 0, τ) ∧ zFr W12 σ τ ∧ mFt lo hi 201 τ := by
        intro d4 d5 σ h hf
        have eo := fOk_i (S := S) (a := a) (W := (k : Int)) (by omega) (S 3).toNat
        have ek1 : ((k + 1 : Nat) : Int) = (k : Int) + 1 := by omega
        rw [hlo, hhi] at eo
        rw [ez_220_112, eo]
        simp only [hki1, zBi]
        by_cases q : lo ≤ (k : Int) ∧ (k : Int) ≤ hi
        · rw [decide_eq_true q, cond_true]
          have ec : fCt lo hi ((k + 1 : Nat) : Int) = (k : Int) - lo + 1 := by rw [ek1]; exact fCt_in q
          have el : (if ((k + 1 : Nat) : Int) - 1 < hi then ((k + 1 : Nat) : Int) - 1 else hi) = k := by split <;> omega
          have nx : ∀ σ' : zM, mV S σ' → σ'.1 0 60 12 = iI ((k : Int) - lo + 1) → σ'.1 0 60 13 = iI lo → σ'.1 0 60 14 = iI k → zFr W12 σ σ' → ∃ τ, zrun (zev (d + 8)) zT_220 11 [some (.inr (.inr (0, 60))), some (.inl (iI a)), some (.inl (iI ((k + 1 : Nat) : Int))), some (.inl (zB true)), none, none] [] σ' = some (0, 0, τ) ∧ zFr W12 σ τ ∧ mFt lo hi 201 τ := fun σ' hv e12 e13 e14 f => by
            obtain ⟨υ, y1, y2, y3⟩ := ih (k + 1) (some (.inl (zB true))) none none σ' (by omega) (by omega) hv ⟨by rw [ec]; exact e12, fun _ => ⟨e13, by rw [el]; exact e14⟩⟩
            exact ⟨υ, y1, zFr_tt f y2, y3⟩
          by_cases q2 : lo = (k : Int)
          · have e0 : σ.1 0 60 12 = 0 := by
              rw [hf.1, ← q2, fCt_at]
              rfl
            rw [if_pos e0]
            refine nx _ (mV_f h (zFr_tt (zFr_tt (zFr_w (by omega)) (zFr_w (by omega))) (zFr_w (by omega)))) ?_ ?_ ?_ (zFr_tt (zFr_tt (zFr_w (by omega)) (zFr_w (by omega))) (zFr_w (by omega)))
            · rw [zfs, zfe (by omega), zfe (by omega), e0, show (k : Int) - lo + 1 = 1 by omega]; decide
            · rw [zfe (by omega), zfe (by omega), zfs, q2]
            · rw [zfe (by omega), zfs]
          · have ek : fCt lo hi k = (k : Int) - lo := fCt_bf (by omega)
            have e0 : ¬ σ.1 0 60 12 = 0 := by
              rw [hf.1, ek, iI_0 (by omega)]; omega
            have h13 := (hf.2 (by omega)).1
            rw [if_neg e0]
            refine nx _ (mV_f h (zFr_tt (zFr_tt (zFr_w (by omega)) (zFr_w (by omega))) (zFr_w (by omega)))) ?_ ?_ ?_ (zFr_tt (zFr_tt (zFr_w (by omega)) (zFr_w (by omega))) (zFr_w (by omega)))
            · rw [zfs, zfe (by omega), zfe (by omega), hf.1, ek, iI_a1]
            · rw [zfe (by omega), zfe (by omega), zfs]; exact h13
            · rw [zfe (by omega), zfs]
        · rw [decide_eq_false q, cond_false]
          have ec : fCt lo hi ((k + 1 : Nat) : Int) = fCt lo hi k := by rw [ek1]; exact fCt_out q
          have el : 0 < fCt lo hi k → (if ((k + 1 : Nat) : Int) - 1 < hi then ((k + 1 : Nat) : Int) - 1 else hi) = (if (k : Int) - 1 < hi then (k : Int) - 1 else hi) := fun z => by rw [ek1]; exact fCt_ol q z
          exact ih (k + 1) (some (.inl (zB false))) none none σ (by omega) (by omega) h ⟨by rw [ec]; exact hf.1, fun z => by
            rw [ec] at z
            rw [el z]
            exact hf.2 z⟩
      have row : ∀ (n r : Nat) (d5 : Option zV) (σ : zM), r + n = (S 3).toNat → mV S σ → mFt lo hi k σ → ∃ τ, zrun (zev (d + 8)) zT_220 23 [some (.inr (.inr (0, 60))), some (.inl (iI a)), some (.inl (iI k)), some (.inl (zB (fOk S a k r))), some (.inl (iI r)), d5] [] σ = some (0, 0, τ) ∧ zFr W12 σ τ ∧ mFt lo hi 201 τ := by
        intro n
        induction n with
        | zero =>
          intro r d5 σ hr h hf
          have e := end112 (some (.inl (iI r))) none σ h hf
          rw [ez_220_23, h.1 3 (by decide), if_neg (by rw [iI_lt (by omega) (by omega)]; omega)]
          rw [show r = (S 3).toNat by omega] at e ⊢
          exact e
        | succ n ih2 =>
          intro r d5 σ hr h hf
          have wr := w.2.2.2.1.2.2 r (by omega)
          have rb := rB_l w (show r < (S 3).toNat by omega)
          have e1 : ∀ {y : zR}, zgd (zin (iI ((76 + 2 * r : Nat) : Int)) 320) y = y := fun {y} => zgd_t (iI_ink (z := ((76 + 2 * r : Nat) : Int)) (k := 76 + 2 * r) rfl (by omega) (by decide))
          have e2 : ∀ {y : zR}, zgd (zin (iI ((76 + 2 * r + 1 : Nat) : Int)) 320) y = y := fun {y} => zgd_t (iI_ink (z := ((76 + 2 * r + 1 : Nat) : Int)) (k := 76 + 2 * r + 1) rfl (by omega) (by decide))
          have n1 : Int32.toNatClampNeg (iI ((76 + 2 * r : Nat) : Int)) = 76 + 2 * r := iI_Nn (by omega)
          have n2 : Int32.toNatClampNeg (iI ((76 + 2 * r + 1 : Nat) : Int)) = 76 + 2 * r + 1 := iI_Nn (by omega)
          have eo : fOk S a k (r + 1) = (fOk S a k r && (decide ((r : Int) = a) || (!aBrk S (rB S r) && (decide (fCf S (rB S r) ≤ (k : Int)) == decide (S (77 + 2 * r) = 1))))) := rfl
          rw [ez_220_23, h.1 3 (by decide), if_pos (by rw [iI_lt (by omega) (by omega)]; omega)]
          cases q0 : fOk S a k r
          case false =>
            rw [if_pos (show zB false = 0 from rfl)]
            have e := end112 (some (.inl (iI r))) none σ h hf
            have ef := fOk_f q0 (n + 1)
            rw [show r + (n + 1) = (S 3).toNat by omega] at ef
            rw [ef] at e
            exact e
          case true =>
          rw [q0, Bool.true_and] at eo
          rw [if_neg (show ¬ zB true = 0 by decide)]
          have e57 : zev (d + 8) 157 [.inr (.inr (0, 60)), .inl (iI (rB S r : Nat))] σ = some (zB (aBrk S (rB S r)), 0, σ) := by
            have wb := w.1.2.2 (rB S r) rb.1
            exact zm157 (d := d + 5) h.1 (by omega) (by omega)
          have eq : (iI (r : Int) = iI a) = ((r : Int) = a) := iI_eq (by omega) ha
          obtain ⟨τ, y1, y2⟩ := zm219f (d := d + 1) (b := rB S r) (W := k) w h rb.1 (by omega)
          have y1 : zev (d + 8) 219 [.inr (.inr (0, 60)), .inl (iI (rB S r : Nat)), .inl (iI k)] σ = _ := y1
          have yv := mV_f h (zFr_i (W := W12) y2 fun _ _ _ q => by omega)
          have s77 : τ.1 0 61 (76 + 2 * r + 1) = iI (S (77 + 2 * r)) := by
            rw [yv.1 (76 + 2 * r + 1) (by omega), show 76 + 2 * r + 1 = 77 + 2 * r by omega]
          have e77 : (iI (S (77 + 2 * r)) = 1) = (S (77 + 2 * r) = 1) := iI_eq (b := 1) (by omega) (by decide)
          have go : ∀ (v : Bool) (x : Int32) (d5 : Option zV), fOk S a k (r + 1) = v → x = zB v → ∃ τ', zrun (zev (d + 8)) zT_220 23 [some (.inr (.inr (0, 60))), some (.inl (iI a)), some (.inl (iI k)), some (.inl x), some (.inl (iI ((r + 1 : Nat) : Int))), d5] [] τ = some (0, 0, τ') ∧ zFr W12 σ τ' ∧ mFt lo hi 201 τ' := fun v x d5 e1 e2 => by
            obtain ⟨υ, x1, x2, x3⟩ := ih2 (r + 1) d5 τ (by omega) yv (mFt_f hf y2)
            rw [e1, ← e2] at x1
            exact ⟨υ, x1, zFr_tt (zFr_i y2 fun _ _ _ q => by omega) x2, x3⟩
          simp only [j2, j76, e1, n1, h.1 (76 + 2 * r) (by omega), rb.2, e57, zbs, zBi, y1, hki1, e2, n2, s77, eq, e77]
          by_cases qa : (r : Int) = a
          · rw [if_pos qa]
            rw [decide_eq_true qa, Bool.true_or] at eo
            obtain ⟨υ, x1, x2, x3⟩ := ih2 (r + 1) (some (.inl (iI (rB S r : Nat)))) σ (by omega) h hf
            rw [eo] at x1
            exact ⟨υ, x1, x2, x3⟩
          · rw [if_neg qa]
            rw [decide_eq_false qa, Bool.false_or] at eo
            cases qb : aBrk S (rB S r)
            · rw [cond_false]
              rw [qb, Bool.not_false, Bool.true_and] at eo
              rw [fW_i w kk rb.1 qb (by omega)]
              by_cases q1 : S (77 + 2 * r) = 1
              · rw [if_pos q1]
                rw [decide_eq_true q1, bq_t] at eo
                cases qv : decide (fCf S (rB S r) ≤ (k : Int))
                · rw [if_neg (show ¬ zB false = 1 by decide)]
                  exact go false 0 _ (eo.trans qv) rfl
                · rw [if_pos (show zB true = 1 by decide)]
                  exact go true 1 _ (eo.trans qv) rfl
              · rw [if_neg q1]
                rw [decide_eq_false q1, bq_f] at eo
                cases qv : decide (fCf S (rB S r) ≤ (k : Int))
                · rw [qv] at eo
                  rw [cond_false]
                  exact go true 1 _ eo rfl
                · rw [qv] at eo
                  rw [cond_true]
                  exact go false 0 _ eo rfl
            · rw [cond_true]
              rw [qb, Bool.not_true, Bool.false_and] at eo
              obtain ⟨υ, x1, x2, x3⟩ := ih2 (r + 1) (some (.inl (iI (rB S r : Nat)))) σ (by omega) h hf
              rw [eo] at x1
              exact ⟨υ, x1, x2, x3⟩
      rw [ez_220_11, if_pos (by show iI k < iI 201; rw [iI_lt (by omega) (by omega)]; omega)]
      exact row (S 3).toNat 0 none σ (by omega) h hf
  have f0 : zFr W12 τ (zwI τ 0 60 12 0) := zFr_w (by omega)
  have c1 : fCt lo hi 1 = 0 := fCt_one bd.1
  obtain ⟨υ, y1, y2, y3⟩ := hm 200 1 none none none (zwI τ 0 60 12 0) (by omega) (by omega) (mV_f ⟨g3, g4⟩ f0) ⟨by rw [zfs]; show 0 = iI (fCt lo hi 1); rw [c1]; rfl, fun z => by have z : 0 < fCt lo hi 1 := z; omega⟩
  have y1 : zrun (zev (d + 8)) zT_220 11 [some (.inr (.inr (0, 60))), some (.inl (iI a)), some (.inl 1), none, none, none] [] (zwI τ 0 60 12 0) = _ := y1
  rw [ez_220]
  simp only [g1, zbs]
  have f2 := zFr_tt f0 y2
  exact ⟨υ, y1, zFr_tt g2 (zFr_i f2 fun _ _ _ q => by omega), mS_f g3 (zFr_f f2 (fun i => by omega)), y3⟩
theorem fCt_no {S : zS} {a : Int} (w : wA S) : fCt (fLo S a (S 3).toNat) (fHi S a (S 3).toNat) 201 = fNo S a := by
  have b := fLH_b (a := a) w (S 3).toNat (Nat.le_refl _)
  unfold fCt fNo
  repeat' split
  all_goals omega
theorem zx_117 {x : zXx} (w : WX x) (c : Int) (hc : zrn c) : zCall 117 221 [.inl (iI c)] x := by
  have wk := w.2.2.2.2.2.2.1
  have c1 : ∀ {σ : zM}, zev 63 141 [.inl (iI c), .inl 0, .inl 2] σ = some (zB (decide (0 ≤ c ∧ c ≤ 2)), 0, σ) := zc141 (l := 0) (h := 2) hc (by decide) (by decide)
  have m1 : ∀ {σ : zM}, zev 63 149 [.inr (.inl (Int32.toInt64 (iI c))), .inr (.inl 0), .inr (.inl 2)] σ = some (zB (decide (0 ≤ c ∧ c ≤ 2)), 0, σ) := zm149k (l := 0) (h := 2) hc (by decide) (by decide)
  have bd := fLH_b (a := -1) w.1 (x.1 3).toNat (Nat.le_refl _)
  have fn := fLH_n (S := x.1) (a := -9) (c := -1) (by decide) (by decide) (x.1 3).toNat
  have no := fNo_n (S := x.1) (a := -9) (c := -1) (by decide) (by decide)
  have nb : 0 ≤ fNo x.1 (-1) ∧ fNo x.1 (-1) ≤ 201 := by unfold fNo; split <;> omega
  have e0 : (iI c = 0) = (c = 0) := iI_0 hc
  have e1 : (iI c = 1) = (c = 1) := iI_eq (b := 1) hc (by decide)
  have eN : (iI (fNo x.1 (-1)) = 0) = (fNo x.1 (-1) = 0) := iI_0 (by omega)
  refine zCq (if 0 ≤ c ∧ c ≤ 2 then (if c = 0 then iI (fNo x.1 (-1)) else if fNo x.1 (-1) = 0 then -3 else if c = 1 then iI (fLo x.1 (-1) (x.1 3).toNat) else iI (fHi x.1 (-1) (x.1 3).toNat)) else -1) w (fun σ h => ?_) (fun σ h => ?_)
  · obtain ⟨τ, g1, g2, g3, g4, -⟩ := zc27k (d := 58) h.1 w.1
    have g1 : zev 63 27 [.inr (.inr (0, 0))] σ = _ := g1
    obtain ⟨τ2, f1, f2, f3, f4⟩ := zc42f (d := 58) (a := -9) w.1 ⟨g3, g4⟩ (by decide)
    have f1 : zev 63 42 [.inr (.inr (0, 19)), .inr (.inr (0, 0)), .inl (-9)] τ = _ := f1
    have e44 := zc44f (d := 61) w.1 f3 f4
    have e44 : zev 63 44 [.inr (.inr (0, 19))] τ2 = _ := e44
    rw [no] at e44
    rw [fn.1] at f3
    rw [fn.2] at f4
    have fr : zFr WC σ τ2 := zFr_tt (zFr_i g2 fun _ _ _ q => by omega) (zFr_i f2 fun _ _ _ q => by omega)
    rw [ez_117]
    simp only [c1, zbs, zBi, g1, f1, e44, e0, e1, eN, f3, f4]
    by_cases q : 0 ≤ c ∧ c ≤ 2
    · rw [decide_eq_true q, cond_true, if_pos q]
      refine ⟨τ2, ?_, fr⟩
      repeat' split
      all_goals rfl
    · rw [decide_eq_false q, cond_false, if_neg q]
      exact ⟨σ, rfl, zFr_r σ⟩
  · obtain ⟨τ, g1, g2, g3, g4, g5⟩ := zm220f (d := 54) (a := -1) w.1 wk h.1 (by decide)
    have g1 : zev 63 220 [.inr (.inr (0, 60)), .inl (-1)] σ = _ := g1
    rw [fCt_no w.1] at g4 g5
    rw [ez_221]
    simp only [m1, zbs, zBi, g1, e0, e1, g4, eN]
    by_cases q : 0 ≤ c ∧ c ≤ 2
    · rw [decide_eq_true q, cond_true, if_pos q]
      refine ⟨τ, ?_, g2, g3⟩
      by_cases q0 : c = 0
      · rw [if_pos q0, if_pos q0]
      · rw [if_neg q0, if_neg q0]
        by_cases qn : fNo x.1 (-1) = 0
        · rw [if_pos qn, if_pos qn]
        · rw [if_neg qn, if_neg qn]
          obtain ⟨g6, g7⟩ := g5 (by omega)
          have e14 : (if (201 : Int) - 1 < fHi x.1 (-1) (x.1 3).toNat then (201 : Int) - 1 else fHi x.1 (-1) (x.1 3).toNat) = fHi x.1 (-1) (x.1 3).toNat := by split <;> omega
          rw [e14] at g7
          rw [g6, g7]
          by_cases q1 : c = 1
          · rw [if_pos q1, if_pos q1]
          · rw [if_neg q1, if_neg q1]
    · rw [decide_eq_false q, cond_false, if_neg q]
      exact ⟨σ, rfl, zFr_r σ, h.1⟩
def fLi (S : zS) : Nat → Nat → Int
  | 0, _ => -3
  | m + 1, k => if 0 < fNo S k then k else fLi S m (k + 1)
theorem zx_118 {x : zXx} (w : WX x) : zCall 118 222 [] x := by
  have wk := w.2.2.2.2.2.2.1
  have r0 := w.1.2.2.2.1.1
  have r1 := w.1.2.2.2.1.2.1
  have no := fNo_n (S := x.1) (a := -9) (c := -1) (by decide) (by decide)
  have nb : ∀ a, 0 ≤ fNo x.1 a ∧ fNo x.1 a ≤ 201 := fun a => by
    have bd := fLH_b (a := a) w.1 (x.1 3).toNat (Nat.le_refl _)
    unfold fNo; split <;> omega
  have eP : ∀ a, (0 < iI (fNo x.1 a)) = (0 < fNo x.1 a) := fun a => iI_0lt (by have := nb a; omega)
  have eZ : ∀ a, (iI (fNo x.1 a) = 0) = (fNo x.1 a = 0) := fun a => iI_0 (by have := nb a; omega)
  refine zCq (if 0 < fNo x.1 (-1) then -3 else iI (fLi x.1 (x.1 3).toNat 0)) w (fun σ h => ?_) (fun σ h => ?_)
  · obtain ⟨τ, g1, g2, g3, g4, -⟩ := zc27k (d := 58) h.1 w.1
    have g1 : zev 63 27 [.inr (.inr (0, 0))] σ = _ := g1
    obtain ⟨τ2, f1, f2, f3, f4⟩ := zc42f (d := 58) (a := -9) w.1 ⟨g3, g4⟩ (by decide)
    have f1 : zev 63 42 [.inr (.inr (0, 19)), .inr (.inr (0, 0)), .inl (-9)] τ = _ := f1
    have e44 := zc44f (d := 61) w.1 f3 f4
    have e44 : zev 63 44 [.inr (.inr (0, 19))] τ2 = _ := e44
    rw [no] at e44
    have fr : zFr WC σ τ2 := zFr_tt (zFr_i g2 fun _ _ _ q => by omega) (zFr_i f2 fun _ _ _ q => by omega)
    have key : ∀ (m k : Nat) (τ : zM), k + m = (x.1 3).toNat → cV x.1 τ → zFr WC σ τ → ∃ υ, zrun (zev 63) zT_118 41 [some (.inr (.inr (0, 30))), some (.inl (iI k))] [] τ = some (iI (fLi x.1 m k), 0, υ) ∧ zFr WC σ υ := by
      intro m
      induction m with
      | zero =>
        intro k τ hk h f
        rw [ez_118_41, h.1.2.2.2.2.1.1, if_neg (by rw [iI_lt (by omega) (by omega)]; omega)]
        exact ⟨τ, rfl, f⟩
      | succ m ih =>
        intro k τ hk h f
        obtain ⟨τ2, f1, f2, f3, f4⟩ := zc42f (d := 58) (a := (k : Int)) w.1 h (by omega)
        have f1 : zev 63 42 [.inr (.inr (0, 19)), .inr (.inr (0, 0)), .inl (iI k)] τ = _ := f1
        have e44 := zc44f (d := 61) w.1 f3 f4
        have e44 : zev 63 44 [.inr (.inr (0, 19))] τ2 = _ := e44
        have fr : zFr WC σ τ2 := zFr_tt f (zFr_i f2 fun _ _ _ q => by omega)
        have el : fLi x.1 (m + 1) k = if 0 < fNo x.1 k then (k : Int) else fLi x.1 m (k + 1) := rfl
        rw [ez_118_41, h.1.2.2.2.2.1.1, if_pos (by rw [iI_lt (by omega) (by omega)]; omega), el]
        simp only [f1, e44, zbs, hki1, eP]
        by_cases q : 0 < fNo x.1 k
        · rw [if_pos q, if_pos q]
          exact ⟨τ2, rfl, fr⟩
        · rw [if_neg q, if_neg q]
          exact ih (k + 1) τ2 (by omega) (cV_f h f2) fr
    obtain ⟨υ, y1, y2⟩ := key (x.1 3).toNat 0 τ2 (by omega) (cV_f ⟨g3, g4⟩ f2) fr
    have y1 : zrun (zev 63) zT_118 41 [some (.inr (.inr (0, 30))), some (.inl 0)] [] τ2 = _ := y1
    rw [ez_118]
    simp only [g1, f1, e44, zbs, eP]
    by_cases q : 0 < fNo x.1 (-1)
    · rw [if_pos q, if_pos q]
      exact ⟨τ2, rfl, fr⟩
    · rw [if_neg q, if_neg q]
      exact ⟨υ, y1, y2⟩
  · obtain ⟨τ, g1, g2, g3, g4, -⟩ := zm220f (d := 54) (a := -1) w.1 wk h.1 (by decide)
    have g1 : zev 63 220 [.inr (.inr (0, 60)), .inl (-1)] σ = _ := g1
    rw [fCt_no w.1] at g4
    have key : ∀ (m k : Nat) (τ : zM), k + m = (x.1 3).toNat → mS 61 x.1 τ → zFr WM σ τ → ∃ υ, zrun (zev 63) zT_222 20 [some (.inr (.inr (0, 60))), some (.inl 1), some (.inl (iI k))] [] τ = some (iI (fLi x.1 m k), 0, υ) ∧ zFr WM σ υ ∧ mS 61 x.1 υ := by
      intro m
      induction m with
      | zero =>
        intro k τ hk hS f
        rw [ez_222_20, hS 3 (by decide), if_neg (by rw [iI_lt (by omega) (by omega)]; omega)]
        exact ⟨τ, rfl, f, hS⟩
      | succ m ih =>
        intro k τ hk hS f
        obtain ⟨τ2, f1, f2, f3, f4, -⟩ := zm220f (d := 54) (a := (k : Int)) w.1 wk hS (by omega)
        have f1 : zev 63 220 [.inr (.inr (0, 60)), .inl (iI k)] τ = _ := f1
        rw [fCt_no w.1] at f4
        have el : fLi x.1 (m + 1) k = if 0 < fNo x.1 k then (k : Int) else fLi x.1 m (k + 1) := rfl
        rw [ez_222_20, hS 3 (by decide), if_pos (by rw [iI_lt (by omega) (by omega)]; omega), el]
        simp only [f1, zbs, hki1, f4, eP]
        rw [if_neg (show ¬ (1 : Int32) = 0 by decide)]
        by_cases q : 0 < fNo x.1 k
        · rw [if_pos q, if_pos q]
          exact ⟨τ2, rfl, zFr_tt f f2, f3⟩
        · rw [if_neg q, if_neg q]
          exact ih (k + 1) τ2 (by omega) f3 (zFr_tt f f2)
    rw [ez_222]
    simp only [g1, zbs, g4, eZ]
    have n1 := nb (-1)
    by_cases q : 0 < fNo x.1 (-1)
    · rw [if_neg (by omega), if_pos q, ez_222_20, g3 3 (by decide)]
      rw [if_pos (show (0 : Int32) = 0 from rfl)]
      refine ⟨τ, ?_, g2, g3⟩
      split <;> rfl
    · rw [if_pos (by omega), if_neg q]
      exact key (x.1 3).toNat 0 τ (by omega) g3 g2
def aLt (z : Int) : Bool := decide (97 ≤ z ∧ z ≤ 122)
def aDg (z : Int) : Bool := decide (48 ≤ z ∧ z ≤ 57)
theorem zc82 {d : Nat} {z : Int} {σ : zM} (hz : zrn z) : zev (d + 1) 82 [.inl (iI z)] σ = some (zB (aLt z), 0, σ) := by
  have e1 : (iI z < 97) = (z < 97) := iI_lt (b := 97) hz (by decide)
  have e2 : (122 < iI z) = (122 < z) := iI_lt (a := 122) (by decide) hz
  rw [ez_82]
  simp only [e1, e2]
  unfold aLt
  by_cases q1 : z < 97
  · rw [if_pos q1, zgd_t (by decide), decide_eq_false (by omega)]; rfl
  · rw [if_neg q1]
    by_cases q2 : 122 < z
    · rw [if_pos q2, zgd_t (by decide), decide_eq_false (by omega)]; rfl
    · rw [if_neg q2, zgd_t (by decide), decide_eq_true (by omega)]; rfl
theorem zc83 {d : Nat} {z : Int} {σ : zM} (hz : zrn z) : zev (d + 1) 83 [.inl (iI z)] σ = some (zB (aDg z), 0, σ) := by
  have e1 : (iI z < 48) = (z < 48) := iI_lt (b := 48) hz (by decide)
  have e2 : (57 < iI z) = (57 < z) := iI_lt (a := 57) (by decide) hz
  rw [ez_83]
  simp only [e1, e2]
  unfold aDg
  by_cases q1 : z < 48
  · rw [if_pos q1, zgd_t (by decide), decide_eq_false (by omega)]; rfl
  · rw [if_neg q1]
    by_cases q2 : 57 < z
    · rw [if_pos q2, zgd_t (by decide), decide_eq_false (by omega)]; rfl
    · rw [if_neg q2, zgd_t (by decide), decide_eq_true (by omega)]; rfl
theorem zm233 {d : Nat} {z : Int} {σ : zM} (hz : zrn z) : zev (d + 2) 233 [.inl (iI z)] σ = some (zB (aLt z), 0, σ) := by
  have e : zev (d + 1) 149 [.inr (.inl (Int32.toInt64 (iI z))), .inr (.inl 97), .inr (.inl 122)] σ = some (zB (aLt z), 0, σ) := zm149k (l := 97) (h := 122) hz (by decide) (by decide)
  rw [ez_233]
  simp only [e, zbs]
  exact zB_g
theorem zm234 {d : Nat} {z : Int} {σ : zM} (hz : zrn z) : zev (d + 2) 234 [.inl (iI z)] σ = some (zB (aDg z), 0, σ) := by
  have e : zev (d + 1) 149 [.inr (.inl (Int32.toInt64 (iI z))), .inr (.inl 48), .inr (.inl 57)] σ = some (zB (aDg z), 0, σ) := zm149k (l := 48) (h := 57) hz (by decide) (by decide)
  rw [ez_234]
  simp only [e, zbs]
  exact zB_g
def aBt (t : zXt) (p : Nat) : Int := if p < t.1 then t.2 p else -1
theorem aBt_r {t : zXt} (w : wT t) (p : Nat) : -1 ≤ aBt t p ∧ aBt t p ≤ 255 := by
  unfold aBt
  split
  · have := w.2 p ‹_›; omega
  · omega
theorem zm232 {d p : Nat} {t : zXt} {σ : zM} (h : mTp t σ) (w : wT t) (hp : p ≤ 1000) : zev (d + 1) 232 [.inr (.inr (0, 60)), .inl (iI p)] σ = some (iI (aBt t p), 0, σ) := by
  have hl := w.1
  rw [ez_232, h.1]
  simp only [iI_lt (show zrn (p : Int) by omega) (show zrn (t.1 : Int) by omega)]
  unfold aBt
  by_cases q : p < t.1
  · rw [if_pos (by omega), if_pos q, zgd_t (iI_ink (z := p) (k := p) rfl (show p < 200 by omega) (by decide)), iI_Nn (show p ≤ 2147483647 by omega), h.2 p q]
  · rw [if_neg (by omega), if_neg q]; rfl
def aRn (P : Int → Bool) (t : zXt) : Nat → Nat → Nat
  | 0, p => p
  | n + 1, p => bif P (t.2 p) then aRn P t n (p + 1) else p
theorem aRn_l {P : Int → Bool} {t : zXt} : ∀ (n p : Nat), p ≤ aRn P t n p ∧ aRn P t n p ≤ p + n
  | 0, p => ⟨Nat.le_refl _, Nat.le_refl _⟩
  | n + 1, p => by
    have := aRn_l (P := P) (t := t) n (p + 1)
    show p ≤ (bif P (t.2 p) then aRn P t n (p + 1) else p) ∧ (bif P (t.2 p) then aRn P t n (p + 1) else p) ≤ p + (n + 1)
    cases P (t.2 p)
    · rw [cond_false]; omega
    · rw [cond_true]; omega
theorem aRn_a {P : Int → Bool} {t : zXt} : ∀ (n p i : Nat), p ≤ i → i < aRn P t n p → P (t.2 i) = true
  | 0, p, i, h1, h2 => by have h2 : i < p := h2; omega
  | n + 1, p, i, h1, h2 => by
    have h2 : i < (bif P (t.2 p) then aRn P t n (p + 1) else p) := h2
    cases q : P (t.2 p)
    · rw [q, cond_false] at h2; omega
    · rw [q, cond_true] at h2
      by_cases e : i = p
      · rw [e]; exact q
      · exact aRn_a n (p + 1) i (by omega) h2
def aTe (t : zXt) (s : Nat) : Nat := if aLt (t.2 s) = true then aRn aLt t (t.1 - (s + 1)) (s + 1) else if aDg (t.2 s) = true then aRn aDg t (t.1 - (s + 1)) (s + 1) else s + 1
theorem aTe_l {t : zXt} {s : Nat} (h : s < t.1) : s < aTe t s ∧ aTe t s ≤ t.1 := by
  have h1 := aRn_l (P := aLt) (t := t) (t.1 - (s + 1)) (s + 1)
  have h2 := aRn_l (P := aDg) (t := t) (t.1 - (s + 1)) (s + 1)
  unfold aTe
  split
  · omega
  · split <;> omega
theorem zc77 {d s : Nat} {t : zXt} {σ : zM} (h : cTp t σ) (w : wT t) (hs : s < t.1) : zev (d + 2) 77 [.inr (.inr (0, 31)), .inl (iI s)] σ = some (iI (aTe t s : Nat), 0, σ) := by
  have hl := w.1
  have w1 := w.2 s hs
  have key : ∀ (nm : Bool) (n p : Nat) (d1 : Option zV), p + n = t.1 → zrun (zev (d + 1)) zT_77 34 [some (.inr (.inr (0, 31))), d1, some (.inl (zB nm)), some (.inl (iI p))] [] σ = some (iI (aRn (bif nm then aLt else aDg) t n p : Nat), 0, σ) := by
    intro nm n
    induction n with
    | zero =>
      intro p d1 hp
      rw [ez_77_34, h.1, if_neg (by rw [iI_lt (by omega) (by omega)]; omega), show p = t.1 by omega]
      rfl
    | succ n ih =>
      intro p d1 hp
      have wp := w.2 p (by omega)
      have e : aRn (bif nm then aLt else aDg) t (n + 1) p = bif (bif nm then aLt else aDg) (t.2 p) then aRn (bif nm then aLt else aDg) t n (p + 1) else p := rfl
      rw [e, ez_77_34, h.1, if_pos (by rw [iI_lt (by omega) (by omega)]; omega)]
      simp only [zgd_t (iI_ink (z := p) (k := p) rfl (show p < 200 by omega) (by decide)), iI_Nn (show p ≤ 2147483647 by omega), h.2 p (by omega), zc82 (d := d) (show zrn (t.2 p) by omega), zc83 (d := d) (show zrn (t.2 p) by omega), zbs, zBi, hki1]
      cases nm
      · rw [cond_false, cond_false]
        rw [cond_false] at ih
        cases aDg (t.2 p)
        · rw [cond_false, cond_false]
        · rw [cond_true, cond_true]; exact ih (p + 1) none (by omega)
      · rw [cond_true, cond_true]
        rw [cond_true] at ih
        cases aLt (t.2 p)
        · rw [cond_false, cond_false]
        · rw [cond_true, cond_true]; exact ih (p + 1) none (by omega)
  rw [ez_77]
  simp only [zgd_t (iI_ink (z := s) (k := s) rfl (show s < 200 by omega) (by decide)), iI_Nn (show s ≤ 2147483647 by omega), h.2 s hs, zc82 (d := d) (show zrn (t.2 s) by omega), zc83 (d := d) (show zrn (t.2 s) by omega), zbs, zBi, hki1]
  unfold aTe
  cases q : aLt (t.2 s)
  · rw [cond_false, if_neg (by decide)]
    cases q2 : aDg (t.2 s)
    · rw [cond_false, if_neg (by decide)]
    · rw [cond_true, if_pos rfl]
      exact key false _ (s + 1) _ (by omega)
  · rw [cond_true, if_pos rfl]
    exact key true _ (s + 1) _ (by omega)
theorem zc76 {d s : Nat} {t : zXt} {σ : zM} (h : cTp t σ) (w : wT t) (hs : s < t.1) : zev (d + 1) 76 [.inr (.inr (0, 31)), .inl (iI s)] σ = some (zB (decide (t.2 s = 32)), 0, σ) := by
  have hl := w.1
  have w1 := w.2 s hs
  have e1 : (iI (t.2 s) = 32) = (t.2 s = 32) := iI_eq (b := 32) (by omega) (by decide)
  rw [ez_76]
  simp only [zgd_t (iI_ink (z := s) (k := s) rfl (show s < 200 by omega) (by decide)), iI_Nn (show s ≤ 2147483647 by omega), h.2 s hs, e1]
  by_cases q : t.2 s = 32
  · rw [if_pos q, zgd_t (by decide), decide_eq_true q]; rfl
  · rw [if_neg q, zgd_t (by decide), decide_eq_false q]; rfl
def aNv (t : zXt) (s : Nat) : Nat → Int
  | 0 => 0
  | n + 1 => aNv t s n * 10 + (t.2 (s + n) - 48)
theorem aNv_r {t : zXt} {s : Nat} : ∀ (n : Nat), (∀ i, i < n → aDg (t.2 (s + i)) = true) → 0 ≤ aNv t s n ∧ aNv t s n < 10 ^ n
  | 0, _ => ⟨Int.le_refl _, by show (0 : Int) < 10 ^ 0; decide⟩
  | n + 1, h => by
    have ih := aNv_r (t := t) (s := s) n (fun i hi => h i (by omega))
    have h0 : 48 ≤ t.2 (s + n) ∧ t.2 (s + n) ≤ 57 := of_decide_eq_true (h n (by omega))
    show 0 ≤ aNv t s n * 10 + (t.2 (s + n) - 48) ∧ aNv t s n * 10 + (t.2 (s + n) - 48) < 10 ^ (n + 1)
    have e : (10 : Int) ^ (n + 1) = 10 ^ n * 10 := Int.pow_succ 10 n
    omega
theorem aTe_d {t : zXt} {s : Nat} (q1 : aLt (t.2 s) = false) (q2 : aDg (t.2 s) = true) : ∀ i, i < aTe t s - s → aDg (t.2 (s + i)) = true := by
  intro i hi
  have e : aTe t s = aRn aDg t (t.1 - (s + 1)) (s + 1) := by
    unfold aTe
    rw [q1, q2, if_neg (by decide), if_pos rfl]
  by_cases q : i = 0
  · rw [q]; exact q2
  · exact aRn_a (t.1 - (s + 1)) (s + 1) (s + i) (by omega) (by omega)
theorem aTe_a {t : zXt} {s : Nat} (q1 : aLt (t.2 s) = true) : ∀ i, i < aTe t s - s → aLt (t.2 (s + i)) = true := by
  intro i hi
  have e : aTe t s = aRn aLt t (t.1 - (s + 1)) (s + 1) := by
    unfold aTe
    rw [q1, if_pos rfl]
  by_cases q : i = 0
  · rw [q]; exact q1
  · exact aRn_a (t.1 - (s + 1)) (s + 1) (s + i) (by omega) (by omega)
theorem zc79 {d s : Nat} {t : zXt} {σ : zM} (h : cTp t σ) (w : wT t) (hs : s < t.1) (q1 : aLt (t.2 s) = false) (q2 : aDg (t.2 s) = true) : zev (d + 1) 79 [.inr (.inr (0, 31)), .inl (iI s), .inl (iI (aTe t s : Nat))] σ = some (iI (if 4 < aTe t s - s then -30 else aNv t s (aTe t s - s)), 0, σ) := by
  have hl := w.1
  have he := aTe_l hs
  have hd := aTe_d q1 q2
  have e4 : (4 < iI ((aTe t s : Nat) : Int) - iI (s : Int)) = ((4 : Int) < (aTe t s : Nat) - s) := by
    rw [iI_sub]; exact iI_lt (a := 4) (by decide) (by omega)
  rw [ez_79]
  simp only [e4]
  by_cases q : 4 < aTe t s - s
  · rw [if_pos (by omega), if_pos q]; rfl
  · rw [if_neg (by omega), if_neg q]
    have key : ∀ (n k : Nat) (d1 : Option zV), k + n = aTe t s - s → zrun (zev d) zT_79 15 [some (.inr (.inr (0, 31))), d1, some (.inl (iI (aTe t s : Nat))), some (.inl (iI (aNv t s k))), some (.inl (iI ((s + k : Nat) : Int)))] [] σ = some (iI (aNv t s (aTe t s - s)), 0, σ) := by
      intro n
      induction n with
      | zero =>
        intro k d1 hk
        rw [ez_79_15, if_neg (by rw [iI_lt (by omega) (by omega)]; omega), show k = aTe t s - s by omega]
      | succ n ih =>
        intro k d1 hk
        rw [ez_79_15, if_pos (by rw [iI_lt (by omega) (by omega)]; omega), zgd_t (iI_ink (z := ((s + k : Nat) : Int)) (k := s + k) rfl (show s + k < 200 by omega) (by decide)), iI_Nn (show s + k ≤ 2147483647 by omega), h.2 (s + k) (by omega), hki1]
        have e : iI (aNv t s k) * 10 + (iI (t.2 (s + k)) - 48) = iI (aNv t s (k + 1)) := by
          show iI (aNv t s k) * iI 10 + (iI (t.2 (s + k)) - iI 48) = _
          rw [iI_mul, iI_sub, iI_add]; rfl
        rw [e]
        exact ih (k + 1) none (by omega)
    exact key (aTe t s - s) 0 (some (.inl (iI s))) (by omega)
def aMt (t : zXt) : Nat → List Int32 → Bool
  | _, [] => true
  | p, c :: l => decide (iI (t.2 p) = c) && aMt t (p + 1) l
theorem z274 {d g : Nat} {σ : zM} : zev (d + 2) 274 [.inr (.inr (g, 95))] σ = some (nI (zSL.getD g []).length >>> ((0 : Int32) &&& 31), 0, σ) := by
  rw [ez_274]
  simp only [ez_276]
  rw [if_neg (by decide), zgd_t (by decide)]
  rfl
theorem zSL_c : ∀ g, g < 18 → (zSL.getD g []).length < 10 ∧ ∀ i, i < (zSL.getD g []).length → ((Int32.toUInt32 (((zSL.getD g []).getD i 0) &&& 255)) % 65536).toInt32 = (zSL.getD g []).getD i 0 ∧ zret 4 (((Int32.toUInt32 (((zSL.getD g []).getD i 0) &&& 255)) % 65536).toInt32) = true := by decide +kernel
theorem zSL_l : ∀ n, n < 10 → nI n >>> ((0 : Int32) &&& 31) = iI n := by decide +kernel
theorem z275 {d g i : Nat} {σ : zM} (hg : g < 18) (hi : i < (zSL.getD g []).length) : zev (d + 5) 275 [.inr (.inr (g, 95)), .inl (iI i)] σ = some ((zSL.getD g []).getD i 0, 0, σ) := by
  have hc := zSL_c g hg
  have h1 := hc.2 i hi
  have e277 : zev (d + 4) 277 [.inr (.inr (g, 95))] σ = some (1, 0, σ) := by
    rw [ez_277]
    simp only
    rw [if_neg (by decide), if_pos (by decide), zgd_t (by decide)]
  have e280 : zev (d + 2) 280 [.inl (iI i), .inl (nI (zSL.getD g []).length), .inr (.inr (0, 99))] σ = some (iI i, 0, σ) := by
    rw [ez_280]
    simp only
    rw [if_neg (by rw [iI_lt0 (by omega)]; omega), if_pos (by rw [nI_iI, iI_lt (by omega) (by omega)]; omega)]
  have e278 : zev (d + 3) 278 [.inl (iI i), .inl (nI (zSL.getD g []).length)] σ = some (0, 0, σ) := by
    rw [ez_278]
    simp only [e280, zbs]
  have e279 : zev (d + 4) 279 [.inr (.inr (g, 96)), .inl (iI i)] σ = some ((zSL.getD g []).getD i 0, 0, σ) := by
    rw [ez_279]
    simp only [e278, zbs, iI_Nn (show i ≤ 2147483647 by omega)]
    rw [zgd_t (iI_ink (z := i) (k := i) rfl hi (by omega)), zgd_t h1.2, h1.1]
  have h2 : zret 4 ((zSL.getD g []).getD i 0) = true := by rw [← h1.1]; exact h1.2
  rw [ez_275]
  simp only [e277, zbs, e279]
  rw [if_neg (by decide), zgd_t h2]
theorem aMt_d {t : zXt} : ∀ (l : List Int32) (p : Nat), aMt t p l = true ↔ ∀ i, i < l.length → iI (t.2 (p + i)) = l.getD i 0
  | [], p => ⟨fun _ i hi => absurd hi (Nat.not_lt_zero i), fun _ => rfl⟩
  | c :: l, p => by
    have ih := aMt_d (t := t) l (p + 1)
    show (decide (iI (t.2 p) = c) && aMt t (p + 1) l) = true ↔ _
    rw [Bool.and_eq_true, decide_eq_true_iff, ih]
    constructor
    · rintro ⟨h1, h2⟩ i hi
      cases i with
      | zero => exact h1
      | succ i =>
        have := h2 i (Nat.lt_of_succ_lt_succ hi)
        rw [show p + (i + 1) = p + 1 + i by omega]
        exact this
    · intro h
      refine ⟨h 0 (Nat.succ_pos _), fun i hi => ?_⟩
      have := h (i + 1) (Nat.succ_lt_succ hi)
      rw [show p + (i + 1) = p + 1 + i by omega] at this
      exact this
def aIs (t : zXt) (s g : Nat) : Bool := decide (aTe t s - s = (zSL.getD g []).length) && aMt t s (zSL.getD g [])
theorem zc81 {d s g : Nat} {t : zXt} {σ : zM} (h : cTp t σ) (w : wT t) (hs : s < t.1) (hg : g < 18) : zev (d + 6) 81 [.inr (.inr (0, 31)), .inr (.inr (g, 95)), .inl (iI s), .inl (iI (aTe t s : Nat))] σ = some (zB (aIs t s g), 0, σ) := by
  have hl := w.1
  have he := aTe_l hs
  have hc := zSL_c g hg
  rw [ez_81]
  simp only [z274 (d := d + 3), zbs, zSL_l _ hc.1, iI_sub, iI_eq (show zrn (((aTe t s : Nat) : Int) - s) by omega) (show zrn (((zSL.getD g []).length : Nat) : Int) by omega)]
  unfold aIs
  by_cases q : aTe t s - s = (zSL.getD g []).length
  · rw [if_pos (by omega), decide_eq_true q, Bool.true_and]
    have key : ∀ (n k : Nat), k + n = (zSL.getD g []).length → (∀ i, i < k → iI (t.2 (s + i)) = (zSL.getD g []).getD i 0) → zrun (zev (d + 5)) zT_81 15 [some (.inr (.inr (0, 31))), some (.inr (.inr (g, 95))), some (.inl (iI s)), some (.inl (iI (aTe t s : Nat))), some (.inl (iI ((s + k : Nat) : Int)))] [] σ = some (zB (aMt t s (zSL.getD g [])), 0, σ) := by
      intro n
      induction n with
      | zero =>
        intro k hk hm
        rw [ez_81_15, if_neg (by rw [iI_lt (by omega) (by omega)]; omega), zgd_t (by decide), (aMt_d _ _).mpr (fun i hi => hm i (by omega))]
        rfl
      | succ n ih =>
        intro k hk hm
        have e1 : iI ((s + k : Nat) : Int) - iI (s : Int) = iI (k : Int) := by rw [iI_sub]; congr 1; omega
        rw [ez_81_15, if_pos (by rw [iI_lt (by omega) (by omega)]; omega), zgd_t (iI_ink (z := ((s + k : Nat) : Int)) (k := s + k) rfl (show s + k < 200 by omega) (by decide)), iI_Nn (show s + k ≤ 2147483647 by omega), h.2 (s + k) (by omega), e1, z275 (d := d) hg (show k < _ by omega), hki1]
        simp only [zbs]
        by_cases q2 : iI (t.2 (s + k)) = (zSL.getD g []).getD k 0
        · rw [if_pos q2]
          exact ih (k + 1) (by omega) (fun i hi => by
            by_cases e : i = k
            · rw [e]; exact q2
            · exact hm i (by omega))
        · rw [if_neg q2, zgd_t (by decide)]
          have : aMt t s (zSL.getD g []) = false := by
            cases q3 : aMt t s (zSL.getD g [])
            · rfl
            · exact absurd ((aMt_d _ _).mp q3 k (by omega)) q2
          rw [this]; rfl
    exact key (zSL.getD g []).length 0 (by omega) (fun i hi => absurd hi (Nat.not_lt_zero i))
  · rw [if_neg (by omega), decide_eq_false q, Bool.false_and, zgd_t (by decide)]
    rfl
def aNwd (m : Nat → Bool) : Int := if m 0 then -20 else if m 1 then -21 else if m 2 then -22 else if m 3 then -23 else if m 4 then -24 else if m 5 then -25 else if m 6 then -16 else if m 7 then -17 else if m 8 then -18 else if m 9 then -15 else if m 10 then -9 else if m 11 then -10 else if m 12 then -11 else if m 13 then -1 else if m 14 then -2 else if m 15 then -3 else if m 16 then -4 else if m 17 then -5 else -30
theorem zc80 {d s : Nat} {t : zXt} {σ : zM} (h : cTp t σ) (w : wT t) (hs : s < t.1) : zev (d + 7) 80 [.inr (.inr (0, 31)), .inl (iI s), .inl (iI (aTe t s : Nat))] σ = some (iI (aNwd (aIs t s)), 0, σ) := by
  have e := fun g (hg : g < 18) => zc81 (d := d) h w hs hg
  rw [ez_80]
  simp only [e 0 (by decide), e 1 (by decide), e 2 (by decide), e 3 (by decide), e 4 (by decide), e 5 (by decide), e 6 (by decide), e 7 (by decide), e 8 (by decide), e 9 (by decide), e 10 (by decide), e 11 (by decide), e 12 (by decide), e 13 (by decide), e 14 (by decide), e 15 (by decide), e 16 (by decide), e 17 (by decide), zbs, zBi]
  unfold aNwd
  cases aIs t s 0
  case true => rfl
  cases aIs t s 1
  case true => rfl
  cases aIs t s 2
  case true => rfl
  cases aIs t s 3
  case true => rfl
  cases aIs t s 4
  case true => rfl
  cases aIs t s 5
  case true => rfl
  cases aIs t s 6
  case true => rfl
  cases aIs t s 7
  case true => rfl
  cases aIs t s 8
  case true => rfl
  cases aIs t s 9
  case true => rfl
  cases aIs t s 10
  case true => rfl
  cases aIs t s 11
  case true => rfl
  cases aIs t s 12
  case true => rfl
  cases aIs t s 13
  case true => rfl
  cases aIs t s 14
  case true => rfl
  cases aIs t s 15
  case true => rfl
  cases aIs t s 16
  case true => rfl
  cases aIs t s 17
  case true => rfl
  rfl
def aSg (z : Int) : Int := if z = 40 then -12 else if z = 41 then -13 else if z = 59 then -14 else if z = 60 then -6 else if z = 61 then -7 else if z = 62 then -8 else -30
def aWd (t : zXt) (s : Nat) : Int := bif aLt (t.2 s) then aNwd (aIs t s) else bif aDg (t.2 s) then (if 4 < aTe t s - s then -30 else aNv t s (aTe t s - s)) else aSg (t.2 s)
theorem zc78 {d s : Nat} {t : zXt} {σ : zM} (h : cTp t σ) (w : wT t) (hs : s < t.1) : zev (d + 8) 78 [.inr (.inr (0, 31)), .inl (iI s), .inl (iI (aTe t s : Nat))] σ = some (iI (aWd t s), 0, σ) := by
  have hl := w.1
  have w1 := w.2 s hs
  have e40 : (iI (t.2 s) = 40) = (t.2 s = 40) := iI_eq (b := 40) (by omega) (by decide)
  have e41 : (iI (t.2 s) = 41) = (t.2 s = 41) := iI_eq (b := 41) (by omega) (by decide)
  have e59 : (iI (t.2 s) = 59) = (t.2 s = 59) := iI_eq (b := 59) (by omega) (by decide)
  have e60 : (iI (t.2 s) = 60) = (t.2 s = 60) := iI_eq (b := 60) (by omega) (by decide)
  have e61 : (iI (t.2 s) = 61) = (t.2 s = 61) := iI_eq (b := 61) (by omega) (by decide)
  have e62 : (iI (t.2 s) = 62) = (t.2 s = 62) := iI_eq (b := 62) (by omega) (by decide)
  rw [ez_78]
  simp only [zgd_t (iI_ink (z := s) (k := s) rfl (show s < 200 by omega) (by decide)), iI_Nn (show s ≤ 2147483647 by omega), h.2 s hs, zc82 (d := d + 6) (show zrn (t.2 s) by omega), zc83 (d := d + 6) (show zrn (t.2 s) by omega), zbs, zBi, zc80 (d := d) h w hs, e40, e41, e59, e60, e61, e62]
  unfold aWd
  cases q : aLt (t.2 s)
  case true => rw [cond_true, cond_true]
  rw [cond_false, cond_false]
  cases q2 : aDg (t.2 s)
  case true =>
    have e79 := zc79 (d := d + 6) h w hs q q2
    rw [cond_true, cond_true, e79]
    rfl
  rw [cond_false, cond_false]
  unfold aSg
  repeat' split
  all_goals rfl
def aTs (t : zXt) (p : Nat) : Nat := aRn (fun z => decide (z = 32)) t (t.1 - p) p
theorem aTs_l {t : zXt} {p : Nat} (h : p ≤ t.1) : p ≤ aTs t p ∧ aTs t p ≤ t.1 := by
  have := aRn_l (P := fun z => decide (z = 32)) (t := t) (t.1 - p) p
  unfold aTs
  omega
def aTf (t : zXt) (s : Nat) : Nat := if s < t.1 then aTe t s else s
theorem aTf_l {t : zXt} {s : Nat} (h : s ≤ t.1) : s ≤ aTf t s ∧ aTf t s ≤ t.1 := by
  unfold aTf
  split
  · have := aTe_l ‹_›; omega
  · omega
abbrev Wtk : Nat → Nat → Nat → Prop := fun g k i => g = 0 ∧ k = 60 ∧ (i = 19 ∨ i = 20)
def mTk (t : zXt) (s e : Nat) (σ : zM) : Prop := mTp t σ ∧ σ.1 0 60 19 = iI s ∧ σ.1 0 60 20 = iI e
theorem mTp_w {t : zXt} {σ τ : zM} (h : mTp t σ) (f : zFr Wtk σ τ) : mTp t τ := mTp_f h (f.1 _ _ _ (by omega)) (zFr_f f (fun i => by omega))
theorem zm235_86 {d : Nat} {t : zXt} (w : wT t) (lt dg : Bool) (hx : (lt && dg) = false) : ∀ (n e : Nat) (σ : zM), e + n = t.1 → mTp t σ → σ.1 0 60 20 = iI e → ∃ τ, zrun (zev (d + 3)) zT_235 86 [some (.inr (.inr (0, 60))), some (.inl (zB lt)), some (.inl (zB dg))] [] σ = some (0, 0, τ) ∧ zFr Wtk σ τ ∧ τ.1 0 60 19 = σ.1 0 60 19 ∧ τ.1 0 60 20 = iI ((bif lt then aRn aLt t n e else bif dg then aRn aDg t n e else e : Nat) : Int)
  | 0, e, σ, he, h, h20 => by
    have hl := w.1
    have e232 : zev (d + 3) 232 [.inr (.inr (0, 60)), .inl (iI e)] σ = some (iI (-1), 0, σ) := by
      rw [zm232 (d := d + 2) h w (by omega)]
      unfold aBt
      rw [if_neg (by omega)]
    rw [ez_235_86]
    simp only [h20, e232, zbs, zm233 (d := d + 1) (show zrn (-1) by decide), show aLt (-1) = false from rfl, zBi]
    rw [ez_235_104]
    simp only [h20, e232, zbs, zm234 (d := d + 1) (show zrn (-1) by decide), show aDg (-1) = false from rfl, zBi]
    refine ⟨σ, ?_, zFr_r σ, rfl, ?_⟩
    · cases lt <;> cases dg <;> rfl
    · rw [h20]
      cases lt <;> cases dg <;> rfl
  | n + 1, e, σ, he, h, h20 => by
    have hl := w.1
    have we := w.2 e (by omega)
    have e232 : zev (d + 3) 232 [.inr (.inr (0, 60)), .inl (iI e)] σ = some (iI (t.2 e), 0, σ) := by
      rw [zm232 (d := d + 2) h w (by omega)]
      unfold aBt
      rw [if_pos (by omega)]
    have i1 : iI (e : Int) + 1 = iI ((e + 1 : Nat) : Int) := hki1
    have f0 : zFr Wtk σ (zwI σ 0 60 20 (iI ((e + 1 : Nat) : Int))) := zFr_w (by omega)
    obtain ⟨τ, g1, g2, g3, g4⟩ := zm235_86 (d := d) w lt dg hx n (e + 1) (zwI σ 0 60 20 (iI ((e + 1 : Nat) : Int))) (by omega) (mTp_w h f0) zfs
    rw [zfe (by omega)] at g3
    have n104 : zrun (zev (d + 3)) zT_235 104 [some (.inr (.inr (0, 60))), some (.inl (zB lt)), some (.inl (zB dg))] [] σ = bif dg && aDg (t.2 e) then some (0, 0, τ) else some (0, 0, σ) := by
      rw [ez_235_104]
      simp only [h20, e232, zbs, zm234 (d := d + 1) (show zrn (t.2 e) by omega), zBi, i1, g1]
      cases dg <;> cases aDg (t.2 e) <;> rfl
    have el : aRn aLt t (n + 1) e = bif aLt (t.2 e) then aRn aLt t n (e + 1) else e := rfl
    have ed : aRn aDg t (n + 1) e = bif aDg (t.2 e) then aRn aDg t n (e + 1) else e := rfl
    rw [ez_235_86]
    simp only [h20, e232, zbs, zm233 (d := d + 1) (show zrn (t.2 e) by omega), zBi, i1, n104, g1]
    rw [el, ed]
    cases lt
    · rw [cond_false, cond_false]
      rw [cond_false] at g4
      cases dg
      · exact ⟨σ, rfl, zFr_r σ, rfl, h20⟩
      · rw [cond_true] at g4
        cases aDg (t.2 e)
        · exact ⟨σ, rfl, zFr_r σ, rfl, h20⟩
        · exact ⟨τ, rfl, zFr_tt f0 g2, g3, g4⟩
    · rw [cond_true] at g4
      cases dg
      · cases aLt (t.2 e)
        · exact ⟨σ, rfl, zFr_r σ, rfl, h20⟩
        · exact ⟨τ, rfl, zFr_tt f0 g2, g3, g4⟩
      · cases hx
theorem zm235 {d p : Nat} {t : zXt} {σ : zM} (w : wT t) (h : mTp t σ) (hp : p ≤ t.1) (h20 : σ.1 0 60 20 = iI p) : ∃ τ, zev (d + 4) 235 [.inr (.inr (0, 60))] σ = some (0, 0, τ) ∧ zFr Wtk σ τ ∧ mTk t (aTs t p) (aTf t (aTs t p)) τ := by
  have hl := w.1
  have key : ∀ (n s : Nat) (σ : zM) (d1 d2 : Option zV), s + n = t.1 → mTp t σ → σ.1 0 60 19 = iI s → ∃ τ, zrun (zev (d + 3)) zT_235 8 [some (.inr (.inr (0, 60))), d1, d2] [] σ = some (0, 0, τ) ∧ zFr Wtk σ τ ∧ mTk t (aRn (fun z => decide (z = 32)) t n s) (aTf t (aRn (fun z => decide (z = 32)) t n s)) τ := by
    intro n
    induction n with
    | zero =>
      intro s σ d1 d2 hs h h19
      have e232 : zev (d + 3) 232 [.inr (.inr (0, 60)), .inl (iI s)] σ = some (iI (-1), 0, σ) := by
        rw [zm232 (d := d + 2) h w (by omega)]
        unfold aBt
        rw [if_neg (by omega)]
      rw [ez_235_8]
      simp only [h19, e232, zbs, zm233 (d := d + 1) (show zrn (-1) by decide), zm234 (d := d + 1) (show zrn (-1) by decide), h.1, iI_lt (show zrn (s : Int) by omega) (show zrn (t.1 : Int) by omega)]
      rw [if_neg (by decide), if_neg (by omega)]
      have f0 : zFr Wtk σ (zwI σ 0 60 20 (iI s)) := zFr_w (by omega)
      obtain ⟨τ, g1, g2, g3, g4⟩ := zm235_86 (d := d) w (aLt (-1)) (aDg (-1)) rfl 0 s (zwI σ 0 60 20 (iI s)) (by omega) (mTp_w h f0) zfs
      rw [zfe (by omega)] at g3
      refine ⟨τ, g1, zFr_tt f0 g2, mTp_w h (zFr_tt f0 g2), g3.trans h19, ?_⟩
      rw [g4]
      unfold aTf
      rw [if_neg (show ¬ aRn (fun z => decide (z = 32)) t 0 s < t.1 by show ¬ s < t.1; omega)]
      rfl
    | succ n ih =>
      intro s σ d1 d2 hs h h19
      have ws := w.2 s (by omega)
      have e232 : ∀ {τ : zM}, mTp t τ → zev (d + 3) 232 [.inr (.inr (0, 60)), .inl (iI s)] τ = some (iI (t.2 s), 0, τ) := fun {τ} h => by
        rw [zm232 (d := d + 2) h w (by omega)]
        unfold aBt
        rw [if_pos (by omega)]
      have er : aRn (fun z => decide (z = 32)) t (n + 1) s = bif decide (t.2 s = 32) then aRn (fun z => decide (z = 32)) t n (s + 1) else s := rfl
      have e32 : (iI (t.2 s) = 32) = (t.2 s = 32) := iI_eq (b := 32) (by omega) (by decide)
      rw [er, ez_235_8]
      simp only [h19, e232 h, zbs, e32, hki1, zm233 (d := d + 1) (show zrn (t.2 s) by omega), zm234 (d := d + 1) (show zrn (t.2 s) by omega), h.1, iI_lt (show zrn (s : Int) by omega) (show zrn (t.1 : Int) by omega)]
      by_cases q : t.2 s = 32
      · rw [if_pos q, decide_eq_true q, cond_true]
        have f0 : zFr Wtk σ (zwI σ 0 60 19 (iI ((s + 1 : Nat) : Int))) := zFr_w (by omega)
        obtain ⟨τ, g1, g2, g3⟩ := ih (s + 1) _ none none (by omega) (mTp_w h f0) zfs
        exact ⟨τ, g1, zFr_tt f0 g2, g3⟩
      · rw [if_neg q, decide_eq_false q, cond_false, if_pos (by omega)]
        have f0 : zFr Wtk σ (zwI σ 0 60 20 (iI ((s + 1 : Nat) : Int))) := zFr_w (by omega)
        have hx : (aLt (t.2 s) && aDg (t.2 s)) = false := by
          unfold aLt aDg
          by_cases a : 97 ≤ t.2 s ∧ t.2 s ≤ 122
          · rw [decide_eq_false (show ¬ (48 ≤ t.2 s ∧ t.2 s ≤ 57) by omega), Bool.and_false]
          · rw [decide_eq_false a, Bool.false_and]
        obtain ⟨τ, g1, g2, g3, g4⟩ := zm235_86 (d := d) w (aLt (t.2 s)) (aDg (t.2 s)) hx (t.1 - (s + 1)) (s + 1) (zwI σ 0 60 20 (iI ((s + 1 : Nat) : Int))) (by omega) (mTp_w h f0) zfs
        rw [zfe (by omega)] at g3
        refine ⟨τ, g1, zFr_tt f0 g2, mTp_w h (zFr_tt f0 g2), g3.trans h19, ?_⟩
        rw [g4]
        unfold aTf aTe
        rw [if_pos (show s < t.1 by omega)]
        cases aLt (t.2 s)
        · cases aDg (t.2 s) <;> rfl
        · rfl
  have f0 : zFr Wtk σ (zwI σ 0 60 19 (σ.1 0 60 20)) := zFr_w (by omega)
  obtain ⟨τ, g1, g2, g3⟩ := key (t.1 - p) p (zwI σ 0 60 19 (σ.1 0 60 20)) none none (by omega) (mTp_w h f0) (by rw [zfs, h20])
  rw [ez_235]
  exact ⟨τ, g1, zFr_tt f0 g2, g3⟩
