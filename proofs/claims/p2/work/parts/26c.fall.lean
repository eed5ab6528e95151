theorem zsI {a b : Int} {σ : zM} (h : a = b) : (some (iI a, 0, σ) : zR) = some (iI b, 0, σ) := by rw [h]
theorem cB_f' {g : Nat} {S : zS} {σ τ : zM} (h : cB g S σ) (e0 : τ.1 g 1 0 = σ.1 g 1 0) (e : ∀ k, 2 ≤ k → k ≤ 6 → τ.1 g k = σ.1 g k) : cB g S τ := by
  unfold cB at h ⊢
  rw [e0, e 2 (by decide) (by decide), e 3 (by decide) (by decide), e 4 (by decide) (by decide), e 5 (by decide) (by decide), e 6 (by decide) (by decide)]
  exact h
theorem cK_f' {g : Nat} {S : zS} {σ τ : zM} (h : cK g S σ) (e : τ.1 g 1 6 = σ.1 g 1 6) : cK g S τ := by
  unfold cK at h ⊢
  rw [e]
  exact h
theorem cW_f' {g : Nat} {S : zS} {σ τ : zM} (h : cW g S σ) (e7 : τ.1 g 1 7 = σ.1 g 1 7) (e8 : τ.1 g 1 8 = σ.1 g 1 8) : cW g S τ := by
  unfold cW at h ⊢
  rw [e7, e8]
  exact h
theorem bt_one {n i : Nat} (hn : n < 32) (hi : i < 32) : bt (1 <<< (iI n &&& 31)) i = decide (i = n) := by
  have b1 : ∀ i, i < 32 → bt 1 i = decide (i = 0) := by decide +kernel
  rw [← nI_iI, b_shl n hn 1 hi]
  by_cases q : n ≤ i
  · rw [decide_eq_true q, Bool.true_and, b1 _ (by omega)]
    exact zdec (by omega)
  · rw [decide_eq_false q, Bool.false_and, decide_eq_false (by omega)]
theorem cA_bk {g n : Nat} {S : zS} {σ : zM} (h : cA g S σ) (w : wA S) (hn : n < (S 0).toNat) : cA g (zup S (11 + 5 * n) 1) (zwI σ g 1 6 (σ.1 g 1 6 ||| (1 <<< (iI n &&& 31)))) := by
  obtain ⟨h1, h2, h3, h4, h5, h6, h7⟩ := h
  obtain ⟨wb, ww, wp, wr, wu, wz⟩ := w
  have b1 := wb.2.1
  have e : ∀ i, i ≠ 11 + 5 * n → zup S (11 + 5 * n) 1 i = S i := fun i hi => zup_n hi
  refine ⟨?_, ?_, ?_, ?_, ?_, ?_, ?_⟩
  · exact cB_f' (cB_c h1 wb (e 0 (by omega)) fun i _ _ _ => e i (by omega)) (zfe (by omega)) fun k _ _ => zfn (by omega)
  · intro b hb
    rw [zfs, b_or, h2 b hb, bt_one (by omega) (by omega), e 0 (by omega)]
    unfold aBrk
    by_cases q : b = n
    · subst q
      rw [zup_s, decide_eq_true hn]
      simp
    · rw [e (11 + 5 * b) (by omega), decide_eq_false q, Bool.or_false]
  · exact cW_f' (cW_c h3 (e 4 (by omega)) (e 5 (by omega))) (zfe (by omega)) (zfe (by omega))
  · exact cP_f (cP_c h4 (e 2 (by omega)) (fun i _ _ => e i (by omega)) wp) fun k _ _ => zfn (by omega)
  · exact cR_f (cR_c h5 (e 3 (by omega)) (fun i _ _ => e i (by omega)) wr) (zfe (by omega)) fun k _ _ => zfn (by omega)
  · exact cU_f (cU_c h6 (e 1 (by omega)) fun i _ => e i (by omega)) fun k _ _ => zfn (by omega)
  · unfold cZ at h7 ⊢
    rw [zfe (by omega), e 6 (by omega)]; exact h7
theorem aBear_c {S T : zS} {b : Nat} (w : wB S) (wp : wP S) (hb : b < (S 0).toNat) (h2 : T 2 = S 2) (h5 : T 5 = S 5) (h : ∀ i, 7 ≤ i → i < 52 → (i - 7) % 5 ≠ 4 → T i = S i) (hp : ∀ i, 52 ≤ i → i < 76 → T i = S i) : aBear T b = aBear S b := by
  have w1 := w.2.1
  have p1 := wp.2.1
  unfold aBear
  rw [h2, h5, h (9 + 5 * b) (by omega) (by omega) (by omega)]
  congr 1
  refine zsum_congr fun p hp' => ?_
  try dsimp only
  have hs : aSeat T p = aSeat S p := by unfold aSeat; rw [hp _ (by omega) (by omega)]
  rw [hs, aAbI_c (fun b hb => h (8 + 5 * b) (by omega) (by omega) (by omega)) w (aSeat_r wp hp').2, hp (52 + 3 * p) (by omega) (by omega)]
theorem aSp_bk {S : zS} {w n b : Nat} (wa : wA S) (hn : n ≤ 9) (hb : b < (S 0).toNat) : aSp (aBk S w n) b = aSp S b := by
  have b1 := wa.1.2.1
  have e : ∀ i, (i < 7 ∨ 52 ≤ i ∨ (i - 7) % 5 ≠ 4) → aBk S w n i = S i := fun i h => aBk_n h hn
  unfold aSp
  rw [aHold_c (by omega) (fun i hi => e i (by omega)), aBear_c wa.1 wa.2.2.1 hb (e 2 (by omega)) (e 5 (by omega)) (fun i _ _ hi => e i (by omega)) (fun i _ _ => e i (by omega))]
theorem aSp_sit {S : zS} {p b : Nat} {z : Int} (wa : wA S) (hp : p < (S 2).toNat) (hz : z < S 0) (hb : b < (S 0).toNat) : aSp (aSit S p z) b = aSp S b + (bif aAbI S (aSeat S p) b then S (52 + 3 * p) else 0) - (bif aAbI S z b then S (52 + 3 * p) else 0) := by
  have b1 := wa.1.2.1
  have p1 := wa.2.2.1.2.1
  unfold aSp
  rw [aSit_hold (by omega) (by omega), aSit_bear wa.1 wa.2.2.1 hp hz hb]
  omega
abbrev Wf (g : Nat) : Nat → Nat → Nat → Prop := fun g' k' i' => g' = g ∧ (k' = 13 ∨ k' = 14 ∨ k' = 22 ∨ k' = 18 ∨ (k' = 1 ∧ i' = 6))
theorem zc34_50 {d g w : Nat} {T : zS} (wa : wA T) (hw : w < (T 0).toNat) : ∀ (n k : Nat) (σ : zM) (d4 : Option zV), k + n = (T 2).toNat → cA g (aDn T w k) σ → cS g T (aSp (aDn T w k)) σ → ∃ τ, zrun (zev (d + 3)) zT_34 50 [some (.inr (.inr (g, 0))), some (.inl (iI w)), some (.inl (iI (aCt T w k))), some (.inl (iI k)), d4] [] σ = some (iI (aCt T w ((T 2).toNat)), 0, τ) ∧ zFr (Wf g) σ τ ∧ cA g (aDn T w ((T 2).toNat)) τ ∧ cS g T (aSp (aDn T w ((T 2).toNat))) τ
  | 0, k, σ, d4, hk, hA, hs => by
    have p0 := wa.2.2.1.1
    have p1 := wa.2.2.1.2.1
    have ek : k = (T 2).toNat := by omega
    subst ek
    have e2 : aDn T w ((T 2).toNat) 2 = T 2 := aDn_n (by omega) (by omega)
    rw [ez_34_50, hA.2.2.2.1.1, e2, if_neg (by rw [iI_lt (by omega) (by omega)]; omega)]
    exact ⟨σ, rfl, zFr_r σ, hA, hs⟩
  | n + 1, k, σ, d4, hk, hA, hs => by
    have p0 := wa.2.2.1.1
    have p1 := wa.2.2.1.2.1
    have b0 := wa.1.1
    have b1 := wa.1.2.1
    have wd := wA_dn wa (w := w) (n := k) (by omega)
    have e2 : aDn T w k 2 = T 2 := aDn_n (by omega) (by omega)
    have e0 : aDn T w k 0 = T 0 := aDn_n (by omega) (by omega)
    have hs0 : aSeat (aDn T w k) k = aSeat T k := aDn_s (Nat.le_refl k)
    have hr := aSeat_r wa.2.2.1 (show k < (T 2).toNat by omega)
    have hp := hA.2.2.2.1.2 k (by rw [e2]; omega)
    have hab : aAbI (aDn T w k) (aSeat T k) w = aAbI T (aSeat T k) w := aAbI_c (fun b hb => aDn_n (by omega) (by omega)) wa.1 hr.2
    have hwt : aDn T w k (52 + 3 * k) = T (52 + 3 * k) := aDn_n (by omega) (by omega)
    rw [hs0, hwt] at hp
    rw [ez_34_50, hA.2.2.2.1.1, e2, if_pos (by rw [iI_lt (by omega) (by omega)]; omega)]
    simp only [zgd_t (iI_ink (z := k) (k := k) rfl (show k < 8 by omega) (by decide)), iI_Nn (show k ≤ 2147483647 by omega), hp.2.2, zc15 (d := d + 1) (z := aSeat T k) (u := w) hA.1 (by rw [e0]; omega) (by rw [e0]; exact hr) (show w < 9 by omega), zbs, zBi, hab, hki1, hp.1, iI_neg]
    have hc : aCt T w (k + 1) = bif aAbI T (aSeat T k) w then aCt T w k + 1 else aCt T w k := rfl
    have hd : aDn T w (k + 1) = bif aAbI T (aSeat T k) w then aSit (aDn T w k) k (-1) else aDn T w k := rfl
    have ih := zc34_50 (d := d) (g := g) wa hw n (k + 1)
    cases hx : aAbI T (aSeat T k) w
    · rw [hx, cond_false] at hc hd
      rw [hc, hd] at ih
      rw [cond_false]
      exact ih σ _ (by omega) hA hs
    · rw [hx, cond_true] at hc hd
      rw [hc, hd] at ih
      rw [cond_true]
      have hs' : cS g (aDn T w k) (aSp (aDn T w k)) σ := fun b hb => hs b (by rw [e0] at hb; exact hb)
      obtain ⟨τ, c1, c2, c3⟩ := zc28 (d := d) (x := -T (52 + 3 * k)) (z := aSeat T k) hA.1 wd.1 hs' (by rw [e0]; exact hr)
      have hA1 : cA g (aDn T w k) τ := cA_s hA (zFr_i c2 fun _ _ _ q => ⟨q.1, by omega⟩)
      have hA2 := cA_sit (p := k) (z := -1) hA1 wd (by omega)
      rw [show cE (-1) = -9 from rfl] at hA2
      rw [c1]
      simp only [zbs, iI_a1]
      obtain ⟨τ2, g1, g2, g3, g4⟩ := ih (zwI τ g 18 k (iI (-9))) (some (.inl (iI (cE (aSeat T k))))) (by omega) hA2 (fun b hb => by
        rw [zfe (by omega), c3 b (by rw [e0]; exact hb), aSp_sit wd (by rw [e2]; omega) (by rw [e0]; omega) (by rw [e0]; exact hb), hs0, hwt, aAbI_n (show (-1 : Int) < 0 by decide), cond_false]
        unfold aLd
        congr 1
        cases aAbI (aDn T w k) (aSeat T k) b
        · rw [cond_false, cond_false]; omega
        · rw [cond_true, cond_true]; omega)
      exact ⟨τ2, g1, zFr_tt (zFr_i c2 fun _ _ _ q => ⟨q.1, by omega⟩) (zFr_tt (zFr_w ⟨rfl, by omega⟩) g2), g3, g4⟩
theorem zc34_2 {d g w : Nat} {S : zS} (wa : wA S) (hw : w < (S 0).toNat) : ∀ (n k : Nat) (σ : zM) (d3 d4 : Option zV), k + n = (S 0).toNat → cA g (aBk S w k) σ → cS g S (aSp S) σ → ∃ τ, zrun (zev (d + 3)) zT_34 2 [some (.inr (.inr (g, 0))), some (.inl (iI w)), some (.inl (iI k)), d3, d4] [] σ = some (iI (aCt (aBk S w ((S 0).toNat)) w ((S 2).toNat)), 0, τ) ∧ zFr (Wf g) σ τ ∧ cA g (aFal S w) τ ∧ cS g S (aSp (aFal S w)) τ
  | 0, k, σ, d3, d4, hk, hA, hs => by
    have b0 := wa.1.1
    have b1 := wa.1.2.1
    have ek : k = (S 0).toNat := by omega
    subst ek
    have e0 : aBk S w ((S 0).toNat) 0 = S 0 := aBk_n (by omega) (by omega)
    have e2 : aBk S w ((S 0).toNat) 2 = S 2 := aBk_n (by omega) (by omega)
    have wd := wA_bk wa (w := w) (n := (S 0).toNat) (by omega)
    have h := zc34_50 (d := d) (g := g) (w := w) wd (by rw [e0]; exact hw) ((S 2).toNat) 0 σ none (by rw [e2]; omega) hA (fun b hb => by
      rw [e0] at hb
      rw [hs b hb]
      exact congrArg iI (aSp_bk wa (by omega) hb).symm)
    rw [e2] at h
    rw [ez_34_2, hA.1.1, e0, if_neg (by rw [iI_lt (by omega) (by omega)]; omega)]
    obtain ⟨τ, g1, g2, g3, g4⟩ := h
    exact ⟨τ, g1, g2, g3, fun b hb => g4 b (by rw [e0]; exact hb)⟩
  | n + 1, k, σ, d3, d4, hk, hA, hs => by
    have b0 := wa.1.1
    have b1 := wa.1.2.1
    have e0 : aBk S w k 0 = S 0 := aBk_n (by omega) (by omega)
    have wd := wA_bk wa (w := w) (n := k) (by omega)
    have hab : aAb (aBk S w k) k w = aAb S k w := aAb_c (fun b hb => aBk_n (by omega) (by omega)) wa.1 (by omega)
    have hd : aBk S w (k + 1) = bif aAb S k w then zup (aBk S w k) (11 + 5 * k) 1 else aBk S w k := rfl
    have ih := zc34_2 (d := d) (g := g) wa hw n (k + 1)
    rw [ez_34_2, hA.1.1, e0, if_pos (by rw [iI_lt (by omega) (by omega)]; omega), zc15n (d := d + 1) hA.1 (by rw [e0]; omega) (by rw [e0]; omega) (by omega)]
    simp only [zbs, zBi, hab, hki1]
    cases hx : aAb S k w
    · rw [hx, cond_false] at hd
      rw [hd] at ih
      rw [cond_false]
      exact ih σ _ _ (by omega) hA hs
    · rw [hx, cond_true] at hd
      rw [hd] at ih
      rw [cond_true]
      obtain ⟨τ2, g1, g2, g3, g4⟩ := ih (zwI σ g 1 6 (σ.1 g 1 6 ||| (1 <<< (iI k &&& 31)))) none none (by omega) (cA_bk hA wd (by rw [e0]; omega)) (fun b hb => by rw [zfe (by omega)]; exact hs b hb)
      exact ⟨τ2, g1, zFr_tt (zFr_w ⟨rfl, by omega⟩) g2, g3, g4⟩
theorem zc34 {d g w : Nat} {S : zS} {σ : zM} (wa : wA S) (hw : w < (S 0).toNat) (hA : cA g S σ) (hs : cS g S (aSp S) σ) : ∃ τ, zev (d + 4) 34 [.inr (.inr (g, 0)), .inl (iI w)] σ = some (iI (aCt (aBk S w ((S 0).toNat)) w ((S 2).toNat)), 0, τ) ∧ zFr (Wf g) σ τ ∧ cA g (aFal S w) τ ∧ cS g S (aSp (aFal S w)) τ := by
  rw [ez_34]
  exact zc34_2 wa hw ((S 0).toNat) 0 σ _ _ (by omega) hA hs
theorem aCt_bk {S : zS} {w : Nat} (wa : wA S) : ∀ {n : Nat}, n ≤ (S 2).toNat → aCt (aBk S w ((S 0).toNat)) w n = aCt S w n
  | 0, _ => rfl
  | n + 1, hn => by
    have b1 := wa.1.2.1
    have p1 := wa.2.2.1.2.1
    have hs : aSeat (aBk S w ((S 0).toNat)) n = aSeat S n := by unfold aSeat; rw [aBk_n (by omega) (by omega)]
    have e : aAbI (aBk S w ((S 0).toNat)) (aSeat (aBk S w ((S 0).toNat)) n) w = aAbI S (aSeat S n) w := by
      rw [hs]
      exact aAbI_c (fun b hb => aBk_n (by omega) (by omega)) wa.1 (aSeat_r wa.2.2.1 (by omega)).2
    show (bif _ then aCt _ w n + 1 else aCt _ w n) = (bif _ then aCt S w n + 1 else aCt S w n)
    rw [e, aCt_bk wa (by omega)]
theorem aFl_s {n : Nat} {S : zS} : aFl (n + 1) S = if aLst S (aSp S) ((S 0).toNat) < 0 ∨ 0 ≤ aSp S (aLst S (aSp S) ((S 0).toNat)).toNat then (S, 0) else ((aFl n (aFal S (aLst S (aSp S) ((S 0).toNat)).toNat)).1, (aFl n (aFal S (aLst S (aSp S) ((S 0).toNat)).toNat)).2 + aCt S (aLst S (aSp S) ((S 0).toNat)).toNat ((S 2).toNat)) := rfl
theorem aFal_0 {S : zS} {w : Nat} (wa : wA S) : aFal S w 0 = S 0 := aFal_n wa (by omega)
theorem zc33_8 {d g : Nat} : ∀ (n k : Nat) (S : zS) (σ : zM) (acc : Int) (d3 : Option zV), k + n = 9 → wA S → cA g S σ → cS g S (aSp S) σ → ∃ τ, zrun (zev (d + 4)) zT_33 8 [some (.inr (.inr (g, 0))), some (.inl (iI acc)), some (.inl (iI k)), d3] [] σ = some (iI (acc + (aFl n S).2), 0, τ) ∧ zFr (Wf g) σ τ ∧ cA g (aFl n S).1 τ
  | 0, k, S, σ, acc, d3, hk, wa, hA, hs => by
    rw [ez_33_8, if_neg (by rw [iI_lt9 (by omega)]; omega)]
    exact ⟨σ, by show _ = some (iI (acc + 0), 0, σ); rw [Int.add_zero], zFr_r σ, hA⟩
  | n + 1, k, S, σ, acc, d3, hk, wa, hA, hs => by
    have b0 := wa.1.1
    have b1 := wa.1.2.1
    have hl := aLst_r (S := S) (f := aSp S) ((S 0).toNat)
    have hf := aSp_r wa
    have hcz : zrn (cE (aLst S (aSp S) ((S 0).toNat))) := by unfold cE; split <;> omega
    rw [ez_33_8, if_pos (by rw [iI_lt9 (by omega)]; omega), zc31 (d := d + 1) hA.1 hA.2.1 wa.1 hs hf]
    simp only [zbs, iI_n9 hcz, hki1]
    rw [aFl_s]
    by_cases q : aLst S (aSp S) ((S 0).toNat) < 0
    · rw [if_pos (show cE (aLst S (aSp S) ((S 0).toNat)) = -9 from if_pos q), if_pos (Or.inl q)]
      exact ⟨σ, by show _ = some (iI (acc + 0), 0, σ); rw [Int.add_zero], zFr_r σ, hA⟩
    · have hce : cE (aLst S (aSp S) ((S 0).toNat)) = aLst S (aSp S) ((S 0).toNat) := if_neg q
      rw [if_neg (by rw [hce]; omega), hce]
      obtain ⟨m, hm⟩ := zint (show 0 ≤ aLst S (aSp S) ((S 0).toNat) by omega)
      rw [hm] at hl ⊢
      have hmb : m < (S 0).toNat := by omega
      have hr := hf m hmb
      rw [Int.toNat_natCast]
      simp only [zgd_t (iI_ink (z := m) (k := m) rfl (show m < 9 by omega) (by decide)), iI_Nn (show m ≤ 2147483647 by omega), hs m hmb, iI_lt0 (show zrn (aSp S m) by omega)]
      by_cases q2 : aSp S m < 0
      · rw [if_pos q2, if_neg (by omega)]
        obtain ⟨τ, c1, c2, c3, c4⟩ := zc34 (d := d) wa hmb hA hs
        have e0 := aFal_0 (w := m) wa
        rw [c1]
        simp only [zbs, iI_add]
        obtain ⟨τ2, g1, g2, g3⟩ := zc33_8 (d := d) (g := g) n (k + 1) (aFal S m) τ (acc + aCt (aBk S m ((S 0).toNat)) m ((S 2).toNat)) (some (.inl (iI m))) (by omega) (wA_fal wa) c3 (fun b hb => c4 b (by rw [e0] at hb; exact hb))
        refine ⟨τ2, ?_, zFr_tt c2 g2, g3⟩
        rw [g1, aCt_bk wa (Nat.le_refl _)]
        exact zsI (by omega)
      · rw [if_neg q2, if_pos (Or.inr (by omega))]
        exact ⟨σ, by show _ = some (iI (acc + 0), 0, σ); rw [Int.add_zero], zFr_r σ, hA⟩
theorem zc33 {d g : Nat} {S : zS} {σ : zM} (wa : wA S) (hA : cA g S σ) : ∃ τ, zev (d + 6) 33 [.inr (.inr (g, 0))] σ = some (iI (aFl 9 S).2, 0, τ) ∧ zFr (Wf g) σ τ ∧ cA g (aFl 9 S).1 τ := by
  rw [ez_33]
  obtain ⟨τ, c1, c2, c3⟩ := zc27 (d := d) hA wa
  simp only [c1, zbs]
  obtain ⟨τ2, g1, g2, g3⟩ := zc33_8 (d := d + 1) (g := g) 9 0 S τ 0 none rfl wa (cA_s hA c2) c3
  rw [Int.zero_add] at g1
  exact ⟨τ2, g1, zFr_tt (zFr_i c2 fun _ _ _ q => ⟨q.1, by omega⟩) g2, g3⟩
