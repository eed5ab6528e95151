theorem zsI {a b : Int} {σ : zM} (h : a = b) : (some (iI a, 0, σ) : zR) = some (iI b, 0, σ) := by rw [h]
theorem cB_f' {g : Nat} {S : zS} {σ τ : zM} (h : cB g S σ) (e0 : τ.1 g 1 0 = σ.1 g 1 0) (e : ∀ k, 2 ≤ k → k ≤ 6 → τ.1 g k = σ.1 g k) : cB g S τ := by
  unfold cB at h ⊢
  rw [e0, e 2 (by decide) (by decide), e 3 (by decide) (by decide), e 4 (by decide) (by decide), e 5 (by decide) (by decide), e 6 (by decide) (by decide)]
  exact h
theorem cK_f' {g : Nat} {S : zS} {σ τ : zM} (h : cK g S σ) (e : τ.1 g 1 6 = σ.1 g 1 6) : cK g S τ := by
  unfold cK at h ⊢
  rw [e]
  exact h
theorem cW_f' {g : Nat} {S : zS} {σ τ : zM} (h : cW g S σ) (e7 : τ.1 g 1 7 = σ.1 g 1 7) (e8 : τ.1 g 1 8 = σ.1 g 1 8) : cW g S τ := by
  unfold cW at h ⊢
  rw [e7, e8]
  exact h
theorem bt_one {n i : Nat} (hn : n < 32) (hi : i < 32) : bt (1 <<< (iI n &&& 31)) i = decide (i = n) := by
  have b1 : ∀ i, i < 32 → bt 1 i = decide (i = 0) := by decide +kernel
  rw [← nI_iI, b_shl n hn 1 hi]
  by_cases q : n ≤ i
  · rw [decide_eq_true q, Bool.true_and, b1 _ (by omega)]
    exact zdec (by omega)
  · rw [decide_eq_false q, Bool.false_and, decide_eq_false (by omega)]
theorem cA_bk {g n : Nat} {S : zS} {σ : zM} (h : cA g S σ) (w : wA S) (hn : n < (S 0).toNat) : cA g (zup S (11 + 5 * n) 1) (zwI σ g 1 6 (σ.1 g 1 6 ||| (1 <<< (iI n &&& 31)))) := by
  obtain ⟨h1, h2, h3, h4, h5, h6, h7⟩ := h
  obtain ⟨wb, ww, wp, wr, wu, wz⟩ := w
  have b1 := wb.2.1
  have e : ∀ i, i ≠ 11 + 5 * n → zup S (11 + 5 * n) 1 i = S i := fun i hi => zup_n hi
  refine ⟨?_, ?_, ?_, ?_, ?_, ?_, ?_⟩
  · exact cB_f' (cB_c h1 wb (e 0 (by omega)) fun i _ _ _ => e i (by omega)) (zfe (by omega)) fun k _ _ => zfn (by omega)
  · intro b hb
    rw [zfs, b_or, h2 b hb, bt_one (by omega) (by omega), e 0 (by omega)]
    unfold aBrk
    by_cases q : b = n
    · subst q
      rw [zup_s, decide_eq_true hn]
      simp
    · rw [e (11 + 5 * b) (by omega), decide_eq_false q, Bool.or_false]
  · exact cW_f' (cW_c h3 (e 4 (by omega)) (e 5 (by omega))) (zfe (by omega)) (zfe (by omega))
  · exact cP_f (cP_c h4 (e 2 (by omega)) (fun i _ _ => e i (by omega)) wp) fun k _ _ => zfn (by omega)
  · exact cR_f (cR_c h5 (e 3 (by omega)) (fun i _ _ => e i (by omega)) wr) (zfe (by omega)) fun k _ _ => zfn (by omega)
  · exact cU_f (cU_c h6 (e 1 (by omega)) fun i _ => e i (by omega)) fun k _ _ => zfn (by omega)
  · unfold cZ at h7 ⊢
    rw [zfe (by omega), e 6 (by omega)]; exact h7
theorem aBear_c {S T : zS} {b : Nat} (w : wB S) (wp : wP S) (hb : b < (S 0).toNat) (h2 : T 2 = S 2) (h5 : T 5 = S 5) (h : ∀ i, 7 ≤ i → i < 52 → (i - 7) % 5 ≠ 4 → T i = S i) (hp : ∀ i, 52 ≤ i → i < 76 → T i = S i) : aBear T b = aBear S b := by
  have w1 := w.2.1
  have p1 := wp.2.1
  unfold aBear
  rw [h2, h5, h (9 + 5 * b) (by omega) (by omega) (by omega)]
  congr 1
  refine zsum_congr fun p hp' => ?_
  try dsimp only
  have hs : aSeat T p = aSeat S p := by unfold aSeat; rw [hp _ (by omega) (by omega)]
  rw [hs, aAbI_c (fun b hb => h (8 + 5 * b) (by omega) (by omega) (by omega)) w (aSeat_r wp hp').2, hp (52 + 3 * p) (by omega) (by omega)]
theorem aSp_bk {S : zS} {w n b : Nat} (wa : wA S) (hn : n ≤ 9) (hb : b < (S 0).toNat) : aSp (aBk S w n) b = aSp S b := by
  have b1 := wa.1.2.1
  have e : ∀ i, (i < 7 ∨ 52 ≤ i ∨ (i - 7) % 5 ≠ 4) → aBk S w n i = S i := fun i h => aBk_n h hn
  unfold aSp
  rw [aHold_c (by omega) (fun i hi => e i (by omega)), aBear_c wa.1 wa.2.2.1 hb (e 2 (by omega)) (e 5 (by omega)) (fun i _ _ hi => e i (by omega)) (fun i _ _ => e i (by omega))]
theorem aSp_sit {S : zS} {p b : Nat} {z : Int} (wa : wA S) (hp : p < (S 2).toNat) (hz : z < S 0) (hb : b < (S 0).toNat) : aSp (aSit S p z) b = aSp S b + (bif aAbI S (aSeat S p) b then S (52 + 3 * p) else 0) - (bif aAbI S z b then S (52 + 3 * p) else 0) := by
  have b1 := wa.1.2.1
  have p1 := wa.2.2.1.2.1
  unfold aSp
  rw [aSit_hold (by omega) (by omega), aSit_bear wa.1 wa.2.2.1 hp hz hb]
  omega
abbrev Wf (g : Nat) : Nat → Nat → Nat → Prop := fun g' k' i' => g' = g ∧ (k' = 13 ∨ k' = 14 ∨ k' = 22 ∨ k' = 18 ∨ (k' = 1 ∧ i' = 6))
theorem zc34_50 {d g w : Nat} {T : zS} (wa : wA T) (hw : w < (T 0).toNat) : ∀ (n k : Nat) (σ : zM) (d4 : Option zV), k + n = (T 2).toNat → cA g (aDn T w k) σ → cS g T (aSp (aDn T w k)) σ → ∃ τ, zrun (zev (d + 3)) zT_34 50 [some (.inr (.inr (g, 0))), some (.inl (iI w)), some (.inl (iI (aCt T w k))), some (.inl (iI k)), d4] [] σ = some (iI (aCt T w ((T 2).toNat)), 0, τ) ∧ zFr (Wf g) σ τ ∧ cA g (aDn T w ((T 2).toNat)) τ ∧ cS g T (aSp (aDn T w ((T 2).toNat))) τ
  | 0, k, σ, d4, hk, hA, hs => by
    have p0 := wa.2.2.1.1
    have p1 := wa.2.2.1.2.1
    have ek : k = (T 2).toNat := by omega
    subst ek
    have e2 : aDn T w ((T 2).toNat) 2 = T 2 := aDn_n (by omega) (by omega)
    rw [ez_34_50, hA.2.2.2.1.1, e2, if_neg (by rw [iI_lt (by omega) (by omega)]; omega)]
    exact ⟨σ, rfl, zFr_r σ, hA, hs⟩
  | n + 1, k, σ, d4, hk, hA, hs => by
    have p0 := wa.2.2.1.1
    have p1 := wa.2.2.1.2.1
    have b0 := wa.1.1
    have b1 := wa.1.2.1
    have wd := wA_dn wa (w := w) (n := k) (by omega)
    have e2 : aDn T w k 2 = T 2 := aDn_n (by omega) (by omega)
    have e0 : aDn T w k 0 = T 0 := aDn_n (by omega) (by omega)
    have hs0 : aSeat (aDn T w k) k = aSeat T k := aDn_s (Nat.le_refl k)
    have hr := aSeat_r wa.2.2.1 (show k < (T 2).toNat by omega)
    have hp := hA.2.2.2.1.2 k (by rw [e2]; omega)
    have hab : aAbI (aDn T w k) (aSeat T k) w = aAbI T (aSeat T k) w := aAbI_c (fun b hb => aDn_n (by omega) (by omega)) wa.1 hr.2
    have hwt : aDn T w k (52 + 3 * k) = T (52 + 3 * k) := aDn_n (by omega) (by omega)
    rw [hs0, hwt] at hp
    rw [ez_34_50, hA.2.2.2.1.1, e2, if_pos (by rw [iI_lt (by omega) (by omega)]; omega)]
    simp only [zgd_t (iI_ink (z := k) (k := k) rfl (show k < 8 by omega) (by decide)), iI_Nn (show k ≤ 2147483647 by omega), hp.2.2, zc15 (d := d + 1) (z := aSeat T k) (u := w) hA.1 (by rw [e0]; omega) (by rw [e0]; exact hr) (show w < 9 by omega), zbs, zBi, hab, hki1, hp.1, iI_neg]
    have hc : aCt T w (k + 1) = bif aAbI T (aSeat T k) w then aCt T w k + 1 else aCt T w k := rfl
    have hd : aDn T w (k + 1) = bif aAbI T (aSeat T k) w then aSit (aDn T w k) k (-1) else aDn T w k := rfl
    have ih := zc34_50 (d := d) (g := g) wa hw n (k + 1)
    cases hx : aAbI T (aSeat T k) w
    · rw [hx, cond_false] at hc hd
      rw [hc, hd] at ih
      rw [cond_false]
      exact ih σ _ (by omega) hA hs
    · rw [hx, cond_true] at hc hd
      rw [hc, hd] at ih
      rw [cond_true]
      have hs' : cS g (aDn T w k) (aSp (aDn T w k)) σ := fun b hb => hs b (by rw [e0] at hb; exact hb)
      obtain ⟨τ, c1, c2, c3⟩ := zc28 (d := d) (x := -T (52 + 3 * k)) (z := aSeat T k) hA.1 wd.1 hs' (by rw [e0]; exact hr)
      have hA1 : cA g (aDn T w k) τ := cA_s hA (zFr_i c2 fun _ _ _ q => ⟨q.1, by omega⟩)
      have hA2 := cA_sit (p := k) (z := -1) hA1 wd (by omega)
      rw [show cE (-1) = -9 from rfl] at hA2
      rw [c1]
      simp only [zbs, iI_a1]
      obtain ⟨τ2, g1, g2, g3, g4⟩ := ih (zwI τ g 18 k (iI (-9))) (some (.inl (iI (cE (aSeat T k))))) (by omega) hA2 (fun b hb => by
        rw [zfe (by omega), c3 b (by rw [e0]; exact hb), aSp_sit wd (by rw [e2]; omega) (by rw [e0]; omega) (by rw [e0]; exact hb), hs0, hwt, aAbI_n (show (-1 : Int) < 0 by decide), cond_false]
        unfold aLd
        congr 1
        cases aAbI (aDn T w k) (aSeat T k) b
        · rw [cond_false, cond_false]; omega
        · rw [cond_true, cond_true]; omega)
      exact ⟨τ2, g1, zFr_tt (zFr_i c2 fun _ _ _ q => ⟨q.1, by omega⟩) (zFr_tt (zFr_w ⟨rfl, by omega⟩) g2), g3, g4⟩
theorem zc34_2 {d g w : Nat} {S : zS} (wa : wA S) (hw : w < (S 0).toNat) : ∀ (n k : Nat) (σ : zM) (d3 d4 : Option zV), k + n = (S 0).toNat → cA g (aBk S w k) σ → cS g S (aSp S) σ → ∃ τ, zrun (zev (d + 3)) zT_34 2 [some (.inr (.inr (g, 0))), some (.inl (iI w)), some (.inl (iI k)), d3, d4] [] σ = some (iI (aCt (aBk S w ((S 0).toNat)) w ((S 2).toNat)), 0, τ) ∧ zFr (Wf g) σ τ ∧ cA g (aFal S w) τ ∧ cS g S (aSp (aFal S w)) τ
  | 0, k, σ, d3, d4, hk, hA, hs => by
    have b0 := wa.1.1
    have b1 := wa.1.2.1
    have ek : k = (S 0).toNat := by omega
    subst ek
    have e0 : aBk S w ((S 0).toNat) 0 = S 0 := aBk_n (by omega) (by omega)
    have e2 : aBk S w ((S 0).toNat) 2 = S 2 := aBk_n (by omega) (by omega)
    have wd := wA_bk wa (w := w) (n := (S 0).toNat) (by omega)
    have h := zc34_50 (d := d) (g := g) (w := w) wd (by rw [e0]; exact hw) ((S 2).toNat) 0 σ none (by rw [e2]; omega) hA (fun b hb => by
      rw [e0] at hb
      rw [hs b hb]
      exact congrArg iI (aSp_bk wa (by omega) hb).symm)
    rw [e2] at h
    rw [ez_34_2, hA.1.1, e0, if_neg (by rw [iI_lt (by omega) (by omega)]; omega)]
    obtain ⟨τ, g1, g2, g3, g4⟩ := h
    exact ⟨τ, g1, g2, g3, fun b hb => g4 b (by rw [e0]; exact hb)⟩
  | n + 1, k, σ, d3, d4, hk, hA, hs => by
    have b0 := wa.1.1
    have b1 := wa.1.2.1
    have e0 : aBk S w k 0 = S 0 := aBk_n (by omega) (by omega)
    have wd := wA_bk wa (w := w) (n := k) (by omega)
    have hab : aAb (aBk S w k) k w = aAb S k w := aAb_c (fun b hb => aBk_n (by omega) (by omega)) wa.1 (by omega)
    have hd : aBk S w (k + 1) = bif aAb S k w then zup (aBk S w k) (11 + 5 * k) 1 else aBk S w k := rfl
    have ih := zc34_2 (d := d) (g := g) wa hw n (k + 1)
    rw [ez_34_2, hA.1.1, e0, if_pos (by rw [iI_lt (by omega) (by omega)]; omega), zc15n (d := d + 1) hA.1 (by rw [e0]; omega) (by rw [e0]; omega) (by omega)]
    simp only [zbs, zBi, hab, hki1]
    cases hx : aAb S k w
    · rw [hx, cond_false] at hd
      rw [hd] at ih
      rw [cond_false]
      exact ih σ _ _ (by omega) hA hs
    · rw [hx, cond_true] at hd
      rw [hd] at ih
      rw [cond_true]
      obtain ⟨τ2, g1, g2, g3, g4⟩ := ih (zwI σ g 1 6 (σ.1 g 1 6 ||| (1 <<< (iI k &&& 31)))) none none (by omega) (cA_bk hA wd (by rw [e0]; omega)) (fun b hb => by rw [zfe (by omega)]; exact hs b hb)
      exact ⟨τ2, g1, zFr_tt (zFr_w ⟨rfl, by omega⟩) g2, g3, g4⟩
theorem zc34 {d g w : Nat} {S : zS} {σ : zM} (wa : wA S) (hw : w < (S 0).toNat) (hA : cA g S σ) (hs : cS g S (aSp S) σ) : ∃ τ, zev (d + 4) 34 [.inr (.inr (g, 0)), .inl (iI w)] σ = some (iI (aCt (aBk S w ((S 0).toNat)) w ((S 2).toNat)), 0, τ) ∧ zFr (Wf g) σ τ ∧ cA g (aFal S w) τ ∧ cS g S (aSp (aFal S w)) τ := by
  rw [ez_34]
  exact zc34_2 wa hw ((S 0).toNat) 0 σ _ _ (by omega) hA hs
theorem aCt_bk {S : zS} {w : Nat} (wa : wA S) : ∀ {n : Nat}, n ≤ (S 2).toNat → aCt (aBk S w ((S 0).toNat)) w n = aCt S w n
  | 0, _ => rfl
  | n + 1, hn => by
    have b1 := wa.1.2.1
    have p1 := wa.2.2.1.2.1
    have hs : aSeat (aBk S w ((S 0).toNat)) n = aSeat S n := by unfold aSeat; rw [aBk_n (by omega) (by omega)]
    have e : aAbI (aBk S w ((S 0).toNat)) (aSeat (aBk S w ((S 0).toNat)) n) w = aAbI S (aSeat S n) w := by
      rw [hs]
      exact aAbI_c (fun b hb => aBk_n (by omega) (by omega)) wa.1 (aSeat_r wa.2.2.1 (by omega)).2
    show (bif _ then aCt _ w n + 1 else aCt _ w n) = (bif _ then aCt S w n + 1 else aCt S w n)
    rw [e, aCt_bk wa (by omega)]
theorem aFl_s {n : Nat} {S : zS} : aFl (n + 1) S = if aLst S (aSp S) ((S 0).toNat) < 0 ∨ 0 ≤ aSp S (aLst S (aSp S) ((S 0).toNat)).toNat then (S, 0) else ((aFl n (aFal S (aLst S (aSp S) ((S 0).toNat)).toNat)).1, (aFl n (aFal S (aLst S (aSp S) ((S 0).toNat)).toNat)).2 + aCt S (aLst S (aSp S) ((S 0).toNat)).toNat ((S 2).toNat)) := rfl
theorem aFal_0 {S : zS} {w : Nat} (wa : wA S) : aFal S w 0 = S 0 := aFal_n wa (by omega)
theorem zc33_8 {d g : Nat} : ∀ (n k : Nat) (S : zS) (σ : zM) (acc : Int) (d3 : Option zV), k + n = 9 → wA S → cA g S σ → cS g S (aSp S) σ → ∃ τ, zrun (zev (d + 4)) zT_33 8 [some (.inr (.inr (g, 0))), some (.inl (iI acc)), some (.inl (iI k)), d3] [] σ = some (iI (acc + (aFl n S).2), 0, τ) ∧ zFr (Wf g) σ τ ∧ cA g (aFl n S).1 τ
  | 0, k, S, σ, acc, d3, hk, wa, hA, hs => by
    rw [ez_33_8, if_neg (by rw [iI_lt9 (by omega)]; omega)]
    exact ⟨σ, by show _ = some (iI (acc + 0), 0, σ); rw [Int.add_zero], zFr_r σ, hA⟩
  | n + 1, k, S, σ, acc, d3, hk, wa, hA, hs => by
    have b0 := wa.1.1
    have b1 := wa.1.2.1
    have hl := aLst_r (S := S) (f := aSp S) ((S 0).toNat)
    have hf := aSp_r wa
    have hcz : zrn (cE (aLst S (aSp S) ((S 0).toNat))) := by unfold cE; split <;> omega
    rw [ez_33_8, if_pos (by rw [iI_lt9 (by omega)]; omega), zc31 (d := d + 1) hA.1 hA.2.1 wa.1 hs hf]
    simp only [zbs, iI_n9 hcz, hki1]
    rw [aFl_s]
    by_cases q : aLst S (aSp S) ((S 0).toNat) < 0
    · rw [if_pos (show cE (aLst S (aSp S) ((S 0).toNat)) = -9 from if_pos q), if_pos (Or.inl q)]
      exact ⟨σ, by show _ = some (iI (acc + 0), 0, σ); rw [Int.add_zero], zFr_r σ, hA⟩
    · have hce : cE (aLst S (aSp S) ((S 0).toNat)) = aLst S (aSp S) ((S 0).toNat) := if_neg q
      rw [if_neg (by rw [hce]; omega), hce]
      obtain ⟨m, hm⟩ := zint (show 0 ≤ aLst S (aSp S) ((S 0).toNat) by omega)
      rw [hm] at hl ⊢
      have hmb : m < (S 0).toNat := by omega
      have hr := hf m hmb
      rw [Int.toNat_natCast]
      simp only [zgd_t (iI_ink (z := m) (k := m) rfl (show m < 9 by omega) (by decide)), iI_Nn (show m ≤ 2147483647 by omega), hs m hmb, iI_lt0 (show zrn (aSp S m) by omega)]
      by_cases q2 : aSp S m < 0
      · rw [if_pos q2, if_neg (by omega)]
        obtain ⟨τ, c1, c2, c3, c4⟩ := zc34 (d := d) wa hmb hA hs
        have e0 := aFal_0 (w := m) wa
        rw [c1]
        simp only [zbs, iI_add]
        obtain ⟨τ2, g1, g2, g3⟩ := zc33_8 (d := d) (g := g) n (k + 1) (aFal S m) τ (acc + aCt (aBk S m ((S 0).toNat)) m ((S 2).toNat)) (some (.inl (iI m))) (by omega) (wA_fal wa) c3 (fun b hb => c4 b (by rw [e0] at hb; exact hb))
        refine ⟨τ2, ?_, zFr_tt c2 g2, g3⟩
        rw [g1, aCt_bk wa (Nat.le_refl _)]
        exact zsI (by omega)
      · rw [if_neg q2, if_pos (Or.inr (by omega))]
        exact ⟨σ, by show _ = some (iI (acc + 0), 0, σ); rw [Int.add_zero], zFr_r σ, hA⟩
theorem zc33 {d g : Nat} {S : zS} {σ : zM} (wa : wA S) (hA : cA g S σ) : ∃ τ, zev (d + 6) 33 [.inr (.inr (g, 0))] σ = some (iI (aFl 9 S).2, 0, τ) ∧ zFr (Wf g) σ τ ∧ cA g (aFl 9 S).1 τ := by
  rw [ez_33]
  obtain ⟨τ, c1, c2, c3⟩ := zc27 (d := d) hA wa
  simp only [c1, zbs]
  obtain ⟨τ2, g1, g2, g3⟩ := zc33_8 (d := d + 1) (g := g) 9 0 S τ 0 none rfl wa (cA_s hA c2) c3
  rw [Int.zero_add] at g1
  exact ⟨τ2, g1, zFr_tt (zFr_i c2 fun _ _ _ q => ⟨q.1, by omega⟩) g2, g3⟩
theorem zm189_2 {d w : Nat} {S : zS} {σ : zM} (hS : mS 61 S σ) (wb : wB S) (hw : w < 9) : ∀ (n : Nat) (z : Int) (d1 : Option zV), z < n → z < S 0 → -1 ≤ z → zrun (zev (d + 3)) zT_189 2 [some (.inr (.inr (0, 60))), d1, some (.inl (iI w)), some (.inl (iI z))] [] σ = some (zB (aAbI S z w), 0, σ)
  | 0, z, d1, hz, hz0, hz1 => by
    rw [ez_189_2, if_pos (by rw [iI_lt0 (by omega)]; omega), if_neg (by rw [iI_eq (by omega) (by omega)]; omega), aAbI_n (by omega)]
    exact zgd_t rfl
  | n + 1, z, d1, hz, hz0, hz1 => by
    have w1 := wb.2.1
    by_cases q : z < 0
    · rw [ez_189_2, if_pos (by rw [iI_lt0 (by omega)]; omega), if_neg (by rw [iI_eq (by omega) (by omega)]; omega), aAbI_n q]
      exact zgd_t rfl
    · obtain ⟨c, rfl⟩ := zint (show 0 ≤ z by omega)
      have w2 := wb.2.2 c (by omega)
      have hp : aPar S c < c ∧ -1 ≤ aPar S c := by unfold aPar; omega
      rw [ez_189_2, if_neg (by rw [iI_lt0 (by omega)]; omega), aAbI_p, aAb_u wb (by omega)]
      by_cases e : c = w
      · subst e
        rw [if_pos rfl, if_pos rfl, Nat.beq_refl]
        exact zgd_t rfl
      · have hb' : Nat.beq c w = false := by
          cases hx : Nat.beq c w
          · rfl
          · exact absurd (Nat.eq_of_beq_eq_true hx) e
        rw [if_neg (by rw [iI_eq (by omega) (by omega)]; omega), zm158 (d := d) hS (show c < 9 by omega), hb', Bool.false_or]
        simp only [zbs]
        exact zm189_2 hS wb hw n (aPar S c) none (by omega) (by omega) (by omega)
theorem zm189 {d w : Nat} {z : Int} {S : zS} {σ : zM} (hS : mS 61 S σ) (wb : wB S) (hw : w < 9) (hz : -1 ≤ z ∧ z < S 0) : zev (d + 4) 189 [.inr (.inr (0, 60)), .inl (iI z), .inl (iI w)] σ = some (zB (aAbI S z w), 0, σ) := by
  have w1 := wb.2.1
  rw [ez_189]
  exact zm189_2 hS wb hw 9 z _ (by omega) hz.2 hz.1
theorem mF_sp {S : zS} {σ : zM} (wa : wA S) (h1 : mR 65 S (aHold S) σ) (h2 : mR 66 S (aBear S) σ) : mF S (aSp S) σ :=
  ⟨aHold S, aBear S, h1, h2, fun b hb => by
    have := aHold_b wa.1 wa.2.1 wa.2.2.2.2.1 hb
    have := aBear_b wa.1 wa.2.1 wa.2.2.1 hb
    exact ⟨rfl, by omega, by omega⟩⟩
theorem zm187_8 {d : Nat} {S : zS} {σ : zM} {f : Nat → Int} (hS : mS 61 S σ) (w : wB S) (hf : mF S f σ) (hr : fR S f) : zrun (zev (d + 3)) zT_187 8 [some (.inr (.inr (0, 60))), some (.inl (iI (-1))), some (.inl 0)] [] σ = some (iI (aLst S f ((S 0).toNat)), 0, σ) := by
  have w0 := w.1
  have w1 := w.2.1
  obtain ⟨h, e, h1, h2, h3⟩ := hf
  have key : ∀ i, i ≤ (S 0).toNat → zrun (zev (d + 3)) zT_187 8 [some (.inr (.inr (0, 60))), some (.inl (iI (aLst S f i))), some (.inl (iI i))] [] σ = some (iI (aLst S f ((S 0).toNat)), 0, σ) := by
    intro i hi
    refine zloop (n := (S 0).toNat) (P := fun i => zrun (zev (d + 3)) zT_187 8 [some (.inr (.inr (0, 60))), some (.inl (iI (aLst S f i))), some (.inl (iI i))] [] σ = some (iI (aLst S f ((S 0).toNat)), 0, σ)) ?_ ?_ hi
    · rw [ez_187_8, hS 0 (by decide), if_neg (by rw [iI_lt (by omega) (by omega)]; omega)]
    · intro i hi ih
      have w2 := w.2.2 i hi
      have hl := aLst_r (S := S) (f := f) i
      have e1 : aLst S f (i + 1) = if aBrk S i = false ∧ (aLst S f i < 0 ∨ f i < f (aLst S f i).toNat) then (i : Int) else aLst S f i := rfl
      rw [ez_187_8, hS 0 (by decide), if_pos (by rw [iI_lt (by omega) (by omega)]; omega)]
      simp only [zm157 (d := d) hS (show i < 9 by omega) (by omega), zbs, zBi, hki1]
      cases hh : aBrk S i
      · rw [cond_false]
        by_cases q : aLst S f i < 0
        · rw [if_pos (⟨hh, Or.inl q⟩ : aBrk S i = false ∧ _)] at e1
          rw [if_pos (by rw [iI_lt0 (by omega)]; exact q)]
          rw [e1] at ih
          exact ih
        · rw [if_neg (by rw [iI_lt0 (by omega)]; exact q)]
          obtain ⟨m, hm⟩ := zint (show 0 ≤ aLst S f i by omega)
          rw [hm] at e1 hl ⊢
          rw [Int.toNat_natCast] at e1
          obtain ⟨a1, a2, a3⟩ := h3 i hi
          obtain ⟨a4, a5, a6⟩ := h3 m (by omega)
          have r1 := hr i hi
          have r2 := hr m (by omega)
          simp only [zgd_t (iI_ink (z := i) (k := i) rfl (show i < 9 by omega) (by decide)), iI_Nn (show i ≤ 2147483647 by omega), zgd_t (iI_ink (z := m) (k := m) rfl (show m < 9 by omega) (by decide)), iI_Nn (show m ≤ 2147483647 by omega), h1 i hi, h1 m (by omega), h2 i hi, h2 m (by omega), iI_sub, iI_lt (show zrn (e m - h m) by omega) (show zrn (e i - h i) by omega)]
          by_cases q2 : f i < f m
          · rw [if_pos (⟨hh, Or.inr q2⟩ : aBrk S i = false ∧ _)] at e1
            rw [if_pos (by omega)]
            rw [e1] at ih
            exact ih
          · rw [if_neg (fun z => z.2.elim (fun y => by omega) q2)] at e1
            rw [if_neg (by omega)]
            rw [e1] at ih
            exact ih
      · rw [cond_true]
        rw [if_neg (fun z => by rw [hh] at z; cases z.1)] at e1
        rw [e1] at ih
        exact ih
  exact key 0 (by omega)
theorem zm187 {d : Nat} {S : zS} {σ : zM} (hS : mS 61 S σ) (wa : wA S) (hh : mR 65 S (aHold S) σ) : ∃ τ, zev (d + 7) 187 [.inr (.inr (0, 60))] σ = some (iI (aLst S (aSp S) ((S 0).toNat)), 0, τ) ∧ zFr (Wk 0 66) σ τ ∧ mR 66 S (aBear S) τ := by
  obtain ⟨τ, c1, c2, c3⟩ := zm168 (d := d) hS wa.1 wa.2.1 wa.2.2.1
  rw [ez_187]
  simp only [c1, zbs]
  refine ⟨τ, ?_, c2, c3⟩
  exact zm187_8 (d := d + 3) (mS_g hS c2 (fun i => by omega)) wa.1 (mF_sp wa (mR_f hh (zFr_f c2 (fun i => by omega))) c3) (aSp_r wa)
def aNb (S : zS) : Nat → Nat
  | 0 => 0
  | n + 1 => bif aBrk S n then aNb S n else aNb S n + 1
theorem aNb_le {S : zS} : ∀ {n : Nat}, aNb S n ≤ n
  | 0 => Nat.le_refl _
  | n + 1 => by
    have := aNb_le (S := S) (n := n)
    show (bif _ then _ else _) ≤ _
    cases aBrk S n
    · rw [cond_false]; omega
    · rw [cond_true]; omega
theorem aNb_mono {S T : zS} (h : ∀ b, b < 9 → aBrk S b = true → aBrk T b = true) : ∀ {n : Nat}, n ≤ 9 → aNb T n ≤ aNb S n
  | 0, _ => Nat.le_refl _
  | n + 1, hn => by
    have := aNb_mono h (n := n) (by omega)
    show (bif _ then _ else _) ≤ (bif _ then _ else _)
    cases hs : aBrk S n
    · cases aBrk T n
      · rw [cond_false, cond_false]; omega
      · rw [cond_true, cond_false]; omega
    · rw [h n (by omega) hs, cond_true, cond_true]; exact this
theorem aNb_lt {S T : zS} (h : ∀ b, b < 9 → aBrk S b = true → aBrk T b = true) {w : Nat} (hs : aBrk S w = false) (ht : aBrk T w = true) : ∀ {n : Nat}, n ≤ 9 → w < n → aNb T n < aNb S n
  | 0, _, hw => absurd hw (Nat.not_lt_zero _)
  | n + 1, hn, hw => by
    have hm := aNb_mono h (n := n) (by omega)
    show (bif _ then _ else _) < (bif _ then _ else _)
    by_cases e : w = n
    · subst e
      rw [hs, ht, cond_true, cond_false]; omega
    · have := aNb_lt h hs ht (n := n) (by omega) (by omega)
      cases hs2 : aBrk S n
      · cases aBrk T n
        · rw [cond_false, cond_false]; omega
        · rw [cond_true, cond_false]; omega
      · rw [h n (by omega) hs2, cond_true, cond_true]; exact this
theorem aLst_w {S : zS} {f : Nat → Int} : ∀ {n m : Nat}, aLst S f n = m → aBrk S m = false
  | 0, m, h => by
    have h : (-1 : Int) = m := h
    omega
  | n + 1, m, h => by
    have h : (if aBrk S n = false ∧ (aLst S f n < 0 ∨ f n < f (aLst S f n).toNat) then (n : Int) else aLst S f n) = m := h
    split at h
    · rename_i q
      have : n = m := by omega
      rw [← this]; exact q.1
    · exact aLst_w h
theorem aLst_none {S : zS} {f : Nat → Int} : ∀ {n : Nat}, aNb S n = 0 → aLst S f n = -1
  | 0, _ => rfl
  | n + 1, h => by
    have h : (bif aBrk S n then aNb S n else aNb S n + 1) = 0 := h
    cases hs : aBrk S n
    · rw [hs, cond_false] at h; omega
    · rw [hs, cond_true] at h
      have h2 := aLst_none (f := f) h
      show (if aBrk S n = false ∧ _ then (n : Int) else aLst S f n) = -1
      rw [if_neg (fun z => by rw [hs] at z; cases z.1), h2]
theorem aFal_m {S : zS} {w b : Nat} (wa : wA S) (h : aBrk S b = true) (hb : b < 9) : aBrk (aFal S w) b = true := by
  have p1 := wa.2.2.1.2.1
  unfold aBrk at h ⊢
  have e : aFal S w (11 + 5 * b) = aBk S w ((S 0).toNat) (11 + 5 * b) := aDn_n (by omega) (by omega)
  rw [e, aBk_s]
  split
  · rfl
  · exact h
theorem aFal_w {S : zS} {w : Nat} (wa : wA S) (hw : w < (S 0).toNat) : aBrk (aFal S w) w = true := by
  have p1 := wa.2.2.1.2.1
  have b1 := wa.1.2.1
  unfold aBrk
  have e : aFal S w (11 + 5 * w) = aBk S w ((S 0).toNat) (11 + 5 * w) := aDn_n (by omega) (by omega)
  rw [e, aBk_s, if_pos ⟨hw, aAb_s⟩]
  rfl
theorem zup_same {S : zS} {i : Nat} {v : Int} (h : S i = v) : zup S i v = S := funext fun j => by
  unfold zup
  split
  · rename_i e; rw [e, h]
  · rfl
abbrev Wg : Nat → Nat → Nat → Prop := fun g k i => g = 0 ∧ (k = 66 ∨ (k = 61 ∧ 7 ≤ i ∧ i < 76))
theorem zm190_72 {d w : Nat} {T : zS} (wa : wA T) (hw : w < (T 0).toNat) : ∀ (n k : Nat) (σ : zM) (acc : Int), k + n = (T 2).toNat → mS 61 (aDn T w k) σ → ∃ τ, zrun (zev (d + 7)) zT_190 72 [some (.inr (.inr (0, 60))), some (.inl (iI (acc + aCt T w k))), some (.inl (iI w)), some (.inl (iI k))] [] σ = (Option.bind (zev (d + 7) 187 [.inr (.inr (0, 60))] τ) fun x4 => zrun (zev (d + 7)) zT_190 11 [some (.inr (.inr (0, 60))), some (.inl (iI (acc + aCt T w ((T 2).toNat)))), some (.inl x4.1), some (.inl (iI ((T 2).toNat)))] [] x4.2.2) ∧ zFr Wg σ τ ∧ mS 61 (aDn T w ((T 2).toNat)) τ
  | 0, k, σ, acc, hk, hS => by
    have p0 := wa.2.2.1.1
    have p1 := wa.2.2.1.2.1
    have ek : k = (T 2).toNat := by omega
    subst ek
    have e2 : aDn T w ((T 2).toNat) 2 = T 2 := aDn_n (by omega) (by omega)
    rw [ez_190_72, hS 2 (by decide), e2, if_neg (by rw [iI_lt (by omega) (by omega)]; omega)]
    exact ⟨σ, rfl, zFr_r σ, hS⟩
  | n + 1, k, σ, acc, hk, hS => by
    have p0 := wa.2.2.1.1
    have p1 := wa.2.2.1.2.1
    have b0 := wa.1.1
    have b1 := wa.1.2.1
    have wd := wA_dn wa (w := w) (n := k) (by omega)
    have e2 : aDn T w k 2 = T 2 := aDn_n (by omega) (by omega)
    have e0 : aDn T w k 0 = T 0 := aDn_n (by omega) (by omega)
    have hs0 : aSeat (aDn T w k) k = aSeat T k := aDn_s (Nat.le_refl k)
    have hr := aSeat_r wa.2.2.1 (show k < (T 2).toNat by omega)
    have hab : aAbI (aDn T w k) (aSeat T k) w = aAbI T (aSeat T k) w := aAbI_c (fun b hb => aDn_n (by omega) (by omega)) wa.1 hr.2
    have hc : aCt T w (k + 1) = bif aAbI T (aSeat T k) w then aCt T w k + 1 else aCt T w k := rfl
    have hd : aDn T w (k + 1) = bif aAbI T (aSeat T k) w then aSit (aDn T w k) k (-1) else aDn T w k := rfl
    have ih := zm190_72 (d := d) wa hw n (k + 1)
    rw [ez_190_72, hS 2 (by decide), e2, if_pos (by rw [iI_lt (by omega) (by omega)]; omega), zm179 (d := d + 4) hS (show k < 8 by omega), hs0]
    simp only [zbs, hki1]
    by_cases q : aSeat T k < 0
    · rw [aAbI_n q, cond_false] at hc hd
      rw [hc, hd] at ih
      rw [if_pos (by rw [iI_lt0 (by omega)]; exact q)]
      exact ih σ acc (by omega) hS
    · rw [if_neg (by rw [iI_lt0 (by omega)]; exact q), zm179 (d := d + 4) hS (show k < 8 by omega), hs0]
      simp only [zbs, zm189 (d := d + 3) hS wd.1 (show w < 9 by omega) (show -1 ≤ aSeat T k ∧ aSeat T k < aDn T w k 0 by rw [e0]; exact hr), zBi, hab]
      cases hx : aAbI T (aSeat T k) w
      · rw [hx, cond_false] at hc hd
        rw [hc, hd] at ih
        rw [cond_false]
        exact ih σ acc (by omega) hS
      · rw [hx, cond_true] at hc hd
        rw [hc, hd] at ih
        rw [cond_true]
        have e8 := zm180 (d := d + 5) (z := -1) (σ := σ) (show k < 8 by omega)
        have e8 : zev (d + 7) 180 [.inr (.inr (0, 60)), .inl (iI k), .inl (-1)] σ = _ := e8
        rw [e8]
        simp only [zbs, iI_a1]
        obtain ⟨τ, g1, g2, g3⟩ := ih (zwI σ 0 61 (54 + 3 * k) (iI (-1 + 1))) acc (by omega) (mS_w hS)
        refine ⟨τ, ?_, zFr_tt (zFr_w ⟨rfl, by omega⟩) g2, g3⟩
        rw [← g1, Int.add_assoc]
theorem zm190_25 {d w : Nat} {S : zS} (wa : wA S) (hw : w < (S 0).toNat) : ∀ (n k : Nat) (σ : zM) (acc : Int), k + n = (S 0).toNat → mS 61 (aBk S w k) σ → ∃ τ, zrun (zev (d + 7)) zT_190 25 [some (.inr (.inr (0, 60))), some (.inl (iI acc)), some (.inl (iI w)), some (.inl (iI k))] [] σ = (Option.bind (zev (d + 7) 187 [.inr (.inr (0, 60))] τ) fun x4 => zrun (zev (d + 7)) zT_190 11 [some (.inr (.inr (0, 60))), some (.inl (iI (acc + aCt S w ((S 2).toNat)))), some (.inl x4.1), some (.inl (iI ((S 2).toNat)))] [] x4.2.2) ∧ zFr Wg σ τ ∧ mS 61 (aFal S w) τ
  | 0, k, σ, acc, hk, hS => by
    have b0 := wa.1.1
    have b1 := wa.1.2.1
    have ek : k = (S 0).toNat := by omega
    subst ek
    have e0 : aBk S w ((S 0).toNat) 0 = S 0 := aBk_n (by omega) (by omega)
    have e2 : aBk S w ((S 0).toNat) 2 = S 2 := aBk_n (by omega) (by omega)
    have wd := wA_bk wa (w := w) (n := (S 0).toNat) (by omega)
    have h := zm190_72 (d := d) (w := w) wd (by rw [e0]; exact hw) ((S 2).toNat) 0 σ acc (by rw [e2]; omega) hS
    rw [e2, aCt_bk wa (Nat.le_refl _)] at h
    rw [ez_190_25, hS 0 (by decide), e0, if_neg (by rw [iI_lt (by omega) (by omega)]; omega)]
    have h0 : acc + aCt (aBk S w ((S 0).toNat)) w 0 = acc := Int.add_zero acc
    rw [h0] at h
    exact h
  | n + 1, k, σ, acc, hk, hS => by
    have b0 := wa.1.1
    have b1 := wa.1.2.1
    have e0 : aBk S w k 0 = S 0 := aBk_n (by omega) (by omega)
    have wd := wA_bk wa (w := w) (n := k) (by omega)
    have hab : aAb (aBk S w k) k w = aAb S k w := aAb_c (fun b hb => aBk_n (by omega) (by omega)) wa.1 (by omega)
    have hd : aBk S w (k + 1) = bif aAb S k w then zup (aBk S w k) (11 + 5 * k) 1 else aBk S w k := rfl
    have ih := zm190_25 (d := d) wa hw n (k + 1)
    have e5 : zev (d + 7) 155 [.inl (iI k), .inl 4] σ = some (iI ((7 + 5 * k + 4 : Nat) : Int), 0, σ) := zm155 (d := d + 6) (b := k) (w := 4)
    rw [show 7 + 5 * k + 4 = 11 + 5 * k by omega] at e5
    have e6 := zm156 (d := d + 5) (b := k) (w := 4) hS (by omega)
    rw [show 7 + 5 * k + 4 = 11 + 5 * k by omega] at e6
    have e6 : zev (d + 7) 156 [.inr (.inr (0, 60)), .inl (iI k), .inl 4] σ = _ := e6
    have e9 := zm189 (d := d + 3) (w := w) (z := k) hS wd.1 (by omega) (by rw [e0]; omega)
    rw [aAbI_p, hab] at e9
    rw [ez_190_25, hS 0 (by decide), e0, if_pos (by rw [iI_lt (by omega) (by omega)]; omega), e5]
    simp only [zbs, e9, zBi, hki1, e6, zgd_t (iI_ink (z := ((11 + 5 * k : Nat) : Int)) (k := 11 + 5 * k) rfl (show 11 + 5 * k < 320 by omega) (by decide)), iI_Nn (show 11 + 5 * k ≤ 2147483647 by omega)]
    cases hx : aAb S k w
    · rw [hx, cond_false] at hd
      rw [hd] at ih
      rw [cond_false]
      have hS' := mS_w (i := 11 + 5 * k) (v := aBk S w k (11 + 5 * k)) hS
      rw [zup_same rfl] at hS'
      obtain ⟨τ, g1, g2, g3⟩ := ih _ acc (by omega) hS'
      exact ⟨τ, g1, zFr_tt (zFr_w ⟨rfl, by omega⟩) g2, g3⟩
    · rw [hx, cond_true] at hd
      rw [hd] at ih
      rw [cond_true]
      obtain ⟨τ, g1, g2, g3⟩ := ih _ acc (by omega) (mS_w (i := 11 + 5 * k) (v := 1) hS)
      exact ⟨τ, g1, zFr_tt (zFr_w ⟨rfl, by omega⟩) g2, g3⟩
theorem zm190_11 {d : Nat} : ∀ (n : Nat) (S : zS) (σ : zM) (acc : Int) (d3 : Option zV), aNb S ((S 0).toNat) ≤ n → wA S → mS 61 S σ → mR 65 S (aHold S) σ → mR 66 S (aBear S) σ → ∃ τ, zrun (zev (d + 7)) zT_190 11 [some (.inr (.inr (0, 60))), some (.inl (iI acc)), some (.inl (iI (aLst S (aSp S) ((S 0).toNat)))), d3] [] σ = some (iI (acc + (aFl n S).2), 0, τ) ∧ zFr Wg σ τ ∧ mS 61 (aFl n S).1 τ
  | 0, S, σ, acc, d3, hn, wa, hS, hh, he => by
    have b1 := wa.1.2.1
    rw [aLst_none (by omega), ez_190_11, if_pos (by decide)]
    exact ⟨σ, by show _ = some (iI (acc + 0), 0, σ); rw [Int.add_zero], zFr_r σ, hS⟩
  | n + 1, S, σ, acc, d3, hn, wa, hS, hh, he => by
    have b0 := wa.1.1
    have b1 := wa.1.2.1
    have hl := aLst_r (S := S) (f := aSp S) ((S 0).toNat)
    rw [aFl_s, ez_190_11]
    by_cases q : aLst S (aSp S) ((S 0).toNat) < 0
    · rw [if_pos (by rw [iI_lt0 (by omega)]; exact q), if_pos (Or.inl q)]
      exact ⟨σ, by show _ = some (iI (acc + 0), 0, σ); rw [Int.add_zero], zFr_r σ, hS⟩
    · rw [if_neg (by rw [iI_lt0 (by omega)]; exact q)]
      obtain ⟨m, hm⟩ := zint (show 0 ≤ aLst S (aSp S) ((S 0).toNat) by omega)
      have hbr := aLst_w hm
      rw [hm] at hl ⊢
      rw [Int.toNat_natCast, zm169 (d := d + 3) hS wa.1 (mF_sp wa hh he) (show m < (S 0).toNat by omega)]
      simp only [zbs, zBi]
      unfold aCr
      rw [hbr, Bool.not_false, Bool.and_true]
      by_cases q2 : aSp S m < 0
      · rw [decide_eq_true q2, cond_true, if_neg (by omega)]
        obtain ⟨τ, g1, g2, g3⟩ := zm190_25 (d := d) (w := m) wa (by omega) ((S 0).toNat) 0 σ acc (by omega) hS
        have g1 : zrun (zev (d + 7)) zT_190 25 [some (.inr (.inr (0, 60))), some (.inl (iI acc)), some (.inl (iI m)), some (.inl 0)] [] σ = _ := g1
        have e0 := aFal_0 (w := m) wa
        have hH : mR 65 (aFal S m) (aHold (aFal S m)) τ := fun b hb => by
          rw [e0] at hb
          rw [zFr_f g2 (fun i => by omega), hh b hb, aHold_c (by omega) (fun i hi => aFal_n wa (by omega))]
        obtain ⟨τ2, f1, f2, f3⟩ := zm187 (d := d) g3 (wA_fal wa) hH
        rw [g1, f1]
        simp only [zbs]
        have hS2 := mS_g g3 f2 (fun i => by omega)
        have hnb : aNb (aFal S m) (((aFal S m) 0).toNat) ≤ n := by
          rw [e0]
          have := aNb_lt (S := S) (T := aFal S m) (w := m) (fun b hb h => aFal_m wa h hb) hbr (aFal_w wa (by omega)) (n := (S 0).toNat) (by omega) (by omega)
          omega
        obtain ⟨τ3, k1, k2, k3⟩ := zm190_11 (d := d) n (aFal S m) τ2 (acc + aCt S m ((S 2).toNat)) (some (.inl (iI ((S 2).toNat)))) hnb (wA_fal wa) hS2 (mR_f hH (zFr_f f2 (fun i => by omega))) f3
        refine ⟨τ3, ?_, zFr_tt g2 (zFr_tt (zFr_i f2 fun _ _ _ q => ⟨q.1, Or.inl q.2⟩) k2), k3⟩
        rw [k1]
        exact zsI (by omega)
      · rw [decide_eq_false q2, cond_false, if_pos (Or.inr (by omega))]
        exact ⟨σ, by show _ = some (iI (acc + 0), 0, σ); rw [Int.add_zero], zFr_r σ, hS⟩
abbrev Wn : Nat → Nat → Nat → Prop := fun g k i => g = 0 ∧ (k = 64 ∨ k = 65 ∨ k = 66 ∨ (k = 61 ∧ 7 ≤ i ∧ i < 76))
theorem zm190 {d : Nat} {S : zS} {σ : zM} (hS : mS 61 S σ) (wa : wA S) : ∃ τ, zev (d + 8) 190 [.inr (.inr (0, 60))] σ = some (iI (aFl 9 S).2, 0, τ) ∧ zFr Wn σ τ ∧ mS 61 (aFl 9 S).1 τ := by
  have b1 := wa.1.2.1
  rw [ez_190]
  obtain ⟨τ, c1, c2, c3⟩ := zm166 (d := d + 1) hS wa.1 wa.2.1 wa.2.2.2.2.1
  have hS1 := mS_g hS c2 (fun i => by omega)
  obtain ⟨τ1, f1, f2, f3⟩ := zm187 (d := d) hS1 wa c3
  simp only [c1, zbs, f1]
  obtain ⟨τ2, k1, k2, k3⟩ := zm190_11 (d := d) 9 S τ1 0 none (Nat.le_trans aNb_le (by omega)) wa (mS_g hS1 f2 (fun i => by omega)) (mR_f c3 (zFr_f f2 (fun i => by omega))) f3
  rw [Int.zero_add] at k1
  exact ⟨τ2, k1, zFr_tt (zFr_i c2 fun _ _ _ q => ⟨q.1, by omega⟩) (zFr_tt (zFr_i f2 fun _ _ _ q => ⟨q.1, by omega⟩) (zFr_i k2 fun _ _ _ q => ⟨q.1, by omega⟩)), k3⟩
theorem zcop_rd (σ : zM) (g k sp g2 k2 dp n g' k' i' : Nat) : (zcop σ g k sp g2 k2 dp n).1 g' k' i' = if g' = g2 ∧ k' = k2 ∧ dp ≤ i' ∧ i' < dp + n then σ.1 g k (sp + (i' - dp)) else σ.1 g' k' i' := rfl
theorem zc148_2 {d h g : Nat} {σ : zM} : zev (d + 2) 148 [.inr (.inr (h, 2)), .inr (.inr (g, 2))] σ = some (0, 0, zcop σ h 2 0 g 2 0 9) := by
  rw [ez_148k2]
  show (Option.bind (zev (d + 1) 273 [.inl (nI 9), .inl (nI 9)] σ) _) = _
  rw [z273, if_neg (by decide), zbs]
  show (Option.bind (zev (d + 1) 282 [.inr (.inr (h, 2)), .inl 0, .inr (.inr (g, 2)), .inl 0, .inl (nI 9)] σ) _) = _
  rw [show zev (d + 1) 282 [.inr (.inr (h, 2)), .inl 0, .inr (.inr (g, 2)), .inl 0, .inl (nI 9)] σ = some (0, 0, zcop σ h 2 0 g 2 0 9) from (zev_b (j := 282) (f := zcopy) rfl).trans rfl]
  rfl
theorem zc148_3 {d h g : Nat} {σ : zM} : zev (d + 2) 148 [.inr (.inr (h, 3)), .inr (.inr (g, 3))] σ = some (0, 0, zcop σ h 3 0 g 3 0 9) := by
  rw [ez_148k3]
  show (Option.bind (zev (d + 1) 273 [.inl (nI 9), .inl (nI 9)] σ) _) = _
  rw [z273, if_neg (by decide), zbs]
  show (Option.bind (zev (d + 1) 282 [.inr (.inr (h, 3)), .inl 0, .inr (.inr (g, 3)), .inl 0, .inl (nI 9)] σ) _) = _
  rw [show zev (d + 1) 282 [.inr (.inr (h, 3)), .inl 0, .inr (.inr (g, 3)), .inl 0, .inl (nI 9)] σ = some (0, 0, zcop σ h 3 0 g 3 0 9) from (zev_b (j := 282) (f := zcopy) rfl).trans rfl]
  rfl
theorem zc148_4 {d h g : Nat} {σ : zM} : zev (d + 2) 148 [.inr (.inr (h, 4)), .inr (.inr (g, 4))] σ = some (0, 0, zcop σ h 4 0 g 4 0 9) := by
  rw [ez_148k4]
  show (Option.bind (zev (d + 1) 273 [.inl (nI 9), .inl (nI 9)] σ) _) = _
  rw [z273, if_neg (by decide), zbs]
  show (Option.bind (zev (d + 1) 282 [.inr (.inr (h, 4)), .inl 0, .inr (.inr (g, 4)), .inl 0, .inl (nI 9)] σ) _) = _
  rw [show zev (d + 1) 282 [.inr (.inr (h, 4)), .inl 0, .inr (.inr (g, 4)), .inl 0, .inl (nI 9)] σ = some (0, 0, zcop σ h 4 0 g 4 0 9) from (zev_b (j := 282) (f := zcopy) rfl).trans rfl]
  rfl
theorem zc148_5 {d h g : Nat} {σ : zM} : zev (d + 2) 148 [.inr (.inr (h, 5)), .inr (.inr (g, 5))] σ = some (0, 0, zcop σ h 5 0 g 5 0 9) := by
  rw [ez_148k5]
  show (Option.bind (zev (d + 1) 273 [.inl (nI 9), .inl (nI 9)] σ) _) = _
  rw [z273, if_neg (by decide), zbs]
  show (Option.bind (zev (d + 1) 282 [.inr (.inr (h, 5)), .inl 0, .inr (.inr (g, 5)), .inl 0, .inl (nI 9)] σ) _) = _
  rw [show zev (d + 1) 282 [.inr (.inr (h, 5)), .inl 0, .inr (.inr (g, 5)), .inl 0, .inl (nI 9)] σ = some (0, 0, zcop σ h 5 0 g 5 0 9) from (zev_b (j := 282) (f := zcopy) rfl).trans rfl]
  rfl
theorem zc148_6 {d h g : Nat} {σ : zM} : zev (d + 2) 148 [.inr (.inr (h, 6)), .inr (.inr (g, 6))] σ = some (0, 0, zcop σ h 6 0 g 6 0 9) := by
  rw [ez_148k6]
  show (Option.bind (zev (d + 1) 273 [.inl (nI 9), .inl (nI 9)] σ) _) = _
  rw [z273, if_neg (by decide), zbs]
  show (Option.bind (zev (d + 1) 282 [.inr (.inr (h, 6)), .inl 0, .inr (.inr (g, 6)), .inl 0, .inl (nI 9)] σ) _) = _
  rw [show zev (d + 1) 282 [.inr (.inr (h, 6)), .inl 0, .inr (.inr (g, 6)), .inl 0, .inl (nI 9)] σ = some (0, 0, zcop σ h 6 0 g 6 0 9) from (zev_b (j := 282) (f := zcopy) rfl).trans rfl]
  rfl
theorem zc148_8 {d h g : Nat} {σ : zM} : zev (d + 2) 148 [.inr (.inr (h, 8)), .inr (.inr (g, 8))] σ = some (0, 0, zcop σ h 8 0 g 8 0 8) := by
  rw [ez_148k8]
  show (Option.bind (zev (d + 1) 273 [.inl (nI 8), .inl (nI 8)] σ) _) = _
  rw [z273, if_neg (by decide), zbs]
  show (Option.bind (zev (d + 1) 282 [.inr (.inr (h, 8)), .inl 0, .inr (.inr (g, 8)), .inl 0, .inl (nI 8)] σ) _) = _
  rw [show zev (d + 1) 282 [.inr (.inr (h, 8)), .inl 0, .inr (.inr (g, 8)), .inl 0, .inl (nI 8)] σ = some (0, 0, zcop σ h 8 0 g 8 0 8) from (zev_b (j := 282) (f := zcopy) rfl).trans rfl]
  rfl
theorem zc148_9 {d h g : Nat} {σ : zM} : zev (d + 2) 148 [.inr (.inr (h, 9)), .inr (.inr (g, 9))] σ = some (0, 0, zcop σ h 9 0 g 9 0 8) := by
  rw [ez_148k9]
  show (Option.bind (zev (d + 1) 273 [.inl (nI 8), .inl (nI 8)] σ) _) = _
  rw [z273, if_neg (by decide), zbs]
  show (Option.bind (zev (d + 1) 282 [.inr (.inr (h, 9)), .inl 0, .inr (.inr (g, 9)), .inl 0, .inl (nI 8)] σ) _) = _
  rw [show zev (d + 1) 282 [.inr (.inr (h, 9)), .inl 0, .inr (.inr (g, 9)), .inl 0, .inl (nI 8)] σ = some (0, 0, zcop σ h 9 0 g 9 0 8) from (zev_b (j := 282) (f := zcopy) rfl).trans rfl]
  rfl
theorem zc148_10 {d h g : Nat} {σ : zM} : zev (d + 2) 148 [.inr (.inr (h, 10)), .inr (.inr (g, 10))] σ = some (0, 0, zcop σ h 10 0 g 10 0 8) := by
  rw [ez_148k10]
  show (Option.bind (zev (d + 1) 273 [.inl (nI 8), .inl (nI 8)] σ) _) = _
  rw [z273, if_neg (by decide), zbs]
  show (Option.bind (zev (d + 1) 282 [.inr (.inr (h, 10)), .inl 0, .inr (.inr (g, 10)), .inl 0, .inl (nI 8)] σ) _) = _
  rw [show zev (d + 1) 282 [.inr (.inr (h, 10)), .inl 0, .inr (.inr (g, 10)), .inl 0, .inl (nI 8)] σ = some (0, 0, zcop σ h 10 0 g 10 0 8) from (zev_b (j := 282) (f := zcopy) rfl).trans rfl]
  rfl
theorem zc148_11 {d h g : Nat} {σ : zM} : zev (d + 2) 148 [.inr (.inr (h, 11)), .inr (.inr (g, 11))] σ = some (0, 0, zcop σ h 11 0 g 11 0 8) := by
  rw [ez_148k11]
  show (Option.bind (zev (d + 1) 273 [.inl (nI 8), .inl (nI 8)] σ) _) = _
  rw [z273, if_neg (by decide), zbs]
  show (Option.bind (zev (d + 1) 282 [.inr (.inr (h, 11)), .inl 0, .inr (.inr (g, 11)), .inl 0, .inl (nI 8)] σ) _) = _
  rw [show zev (d + 1) 282 [.inr (.inr (h, 11)), .inl 0, .inr (.inr (g, 11)), .inl 0, .inl (nI 8)] σ = some (0, 0, zcop σ h 11 0 g 11 0 8) from (zev_b (j := 282) (f := zcopy) rfl).trans rfl]
  rfl
theorem zc148_12 {d h g : Nat} {σ : zM} : zev (d + 2) 148 [.inr (.inr (h, 12)), .inr (.inr (g, 12))] σ = some (0, 0, zcop σ h 12 0 g 12 0 200) := by
  rw [ez_148k12]
  show (Option.bind (zev (d + 1) 273 [.inl (nI 200), .inl (nI 200)] σ) _) = _
  rw [z273, if_neg (by decide), zbs]
  show (Option.bind (zev (d + 1) 282 [.inr (.inr (h, 12)), .inl 0, .inr (.inr (g, 12)), .inl 0, .inl (nI 200)] σ) _) = _
  rw [show zev (d + 1) 282 [.inr (.inr (h, 12)), .inl 0, .inr (.inr (g, 12)), .inl 0, .inl (nI 200)] σ = some (0, 0, zcop σ h 12 0 g 12 0 200) from (zev_b (j := 282) (f := zcopy) rfl).trans rfl]
  rfl
theorem zc148_16 {d h g : Nat} {σ : zM} : zev (d + 2) 148 [.inr (.inr (h, 16)), .inr (.inr (g, 16))] σ = some (0, 0, zcop σ h 16 0 g 16 0 8) := by
  rw [ez_148k16]
  show (Option.bind (zev (d + 1) 273 [.inl (nI 8), .inl (nI 8)] σ) _) = _
  rw [z273, if_neg (by decide), zbs]
  show (Option.bind (zev (d + 1) 282 [.inr (.inr (h, 16)), .inl 0, .inr (.inr (g, 16)), .inl 0, .inl (nI 8)] σ) _) = _
  rw [show zev (d + 1) 282 [.inr (.inr (h, 16)), .inl 0, .inr (.inr (g, 16)), .inl 0, .inl (nI 8)] σ = some (0, 0, zcop σ h 16 0 g 16 0 8) from (zev_b (j := 282) (f := zcopy) rfl).trans rfl]
  rfl
theorem zc148_17 {d h g : Nat} {σ : zM} : zev (d + 2) 148 [.inr (.inr (h, 17)), .inr (.inr (g, 17))] σ = some (0, 0, zcop σ h 17 0 g 17 0 8) := by
  rw [ez_148k17]
  show (Option.bind (zev (d + 1) 273 [.inl (nI 8), .inl (nI 8)] σ) _) = _
  rw [z273, if_neg (by decide), zbs]
  show (Option.bind (zev (d + 1) 282 [.inr (.inr (h, 17)), .inl 0, .inr (.inr (g, 17)), .inl 0, .inl (nI 8)] σ) _) = _
  rw [show zev (d + 1) 282 [.inr (.inr (h, 17)), .inl 0, .inr (.inr (g, 17)), .inl 0, .inl (nI 8)] σ = some (0, 0, zcop σ h 17 0 g 17 0 8) from (zev_b (j := 282) (f := zcopy) rfl).trans rfl]
  rfl
theorem zc148_18 {d h g : Nat} {σ : zM} : zev (d + 2) 148 [.inr (.inr (h, 18)), .inr (.inr (g, 18))] σ = some (0, 0, zcop σ h 18 0 g 18 0 8) := by
  rw [ez_148k18]
  show (Option.bind (zev (d + 1) 273 [.inl (nI 8), .inl (nI 8)] σ) _) = _
  rw [z273, if_neg (by decide), zbs]
  show (Option.bind (zev (d + 1) 282 [.inr (.inr (h, 18)), .inl 0, .inr (.inr (g, 18)), .inl 0, .inl (nI 8)] σ) _) = _
  rw [show zev (d + 1) 282 [.inr (.inr (h, 18)), .inl 0, .inr (.inr (g, 18)), .inl 0, .inl (nI 8)] σ = some (0, 0, zcop σ h 18 0 g 18 0 8) from (zev_b (j := 282) (f := zcopy) rfl).trans rfl]
  rfl
theorem zc148_20 {d h g : Nat} {σ : zM} : zev (d + 2) 148 [.inr (.inr (h, 20)), .inr (.inr (g, 20))] σ = some (0, 0, zcop σ h 20 0 g 20 0 6) := by
  rw [ez_148k20]
  show (Option.bind (zev (d + 1) 273 [.inl (nI 6), .inl (nI 6)] σ) _) = _
  rw [z273, if_neg (by decide), zbs]
  show (Option.bind (zev (d + 1) 282 [.inr (.inr (h, 20)), .inl 0, .inr (.inr (g, 20)), .inl 0, .inl (nI 6)] σ) _) = _
  rw [show zev (d + 1) 282 [.inr (.inr (h, 20)), .inl 0, .inr (.inr (g, 20)), .inl 0, .inl (nI 6)] σ = some (0, 0, zcop σ h 20 0 g 20 0 6) from (zev_b (j := 282) (f := zcopy) rfl).trans rfl]
  rfl
theorem zc148_21 {d h g : Nat} {σ : zM} : zev (d + 2) 148 [.inr (.inr (h, 21)), .inr (.inr (g, 21))] σ = some (0, 0, zcop σ h 21 0 g 21 0 6) := by
  rw [ez_148k21]
  show (Option.bind (zev (d + 1) 273 [.inl (nI 6), .inl (nI 6)] σ) _) = _
  rw [z273, if_neg (by decide), zbs]
  show (Option.bind (zev (d + 1) 282 [.inr (.inr (h, 21)), .inl 0, .inr (.inr (g, 21)), .inl 0, .inl (nI 6)] σ) _) = _
  rw [show zev (d + 1) 282 [.inr (.inr (h, 21)), .inl 0, .inr (.inr (g, 21)), .inl 0, .inl (nI 6)] σ = some (0, 0, zcop σ h 21 0 g 21 0 6) from (zev_b (j := 282) (f := zcopy) rfl).trans rfl]
  rfl
theorem zcC_c {f c c' : Nat → Int32} : ∀ {n k : Nat} {st : List Int32}, (∀ i, k ≤ i → i < k + n → c i = c' i) → zcR f c n k st = zcR f c' n k st
  | 0, _, _, _ => rfl
  | n + 1, k, st, h => by
    show zcR f c n (k + 1) (zcS f (c k) st) = zcR f c' n (k + 1) (zcS f (c' k) st)
    rw [h k (Nat.le_refl _) (by omega)]
    exact zcC_c (fun i hi hi2 => h i (by omega) (by omega))
theorem cU_cp {g h : Nat} {S : zS} {σ τ : zM} (hU : cU h S σ) (u : wU S) (e0 : τ.1 g 7 0 = σ.1 h 7 0) (e : ∀ k, 8 ≤ k → k ≤ 11 → ∀ i, i < 8 → τ.1 g k i = σ.1 h k i) (e2 : ∀ i, i < 200 → τ.1 g 12 i = σ.1 h 12 i) : cU g S τ := by
  have u1 := u.2.1
  refine ⟨by rw [e0]; exact hU.1, fun k hk => ?_⟩
  have h2 := hU.2 k hk
  have u2 := u.2.2 k hk
  have en : ∀ j, j ≤ 8 → cEn (τ.1 g 11) j = cEn (σ.1 h 11) j := fun j hj => by
    cases j with
    | zero => rfl
    | succ j => show (τ.1 g 11 j).toNatClampNeg = (σ.1 h 11 j).toNatClampNeg; rw [e 11 (by decide) (by decide) j (by omega)]
  have h6 := h2.2.2.2.2.2.1
  rw [e 8 (by decide) (by decide) k (by omega), e 9 (by decide) (by decide) k (by omega), e 10 (by decide) (by decide) k (by omega), e 11 (by decide) (by decide) k (by omega), en k (by omega), en (k + 1) (by omega)]
  refine ⟨h2.1, h2.2.1, h2.2.2.1, h2.2.2.2.1, h2.2.2.2.2.1, h6, fun f => ?_⟩
  rw [h2.2.2.2.2.2.2 f]
  unfold zcC
  rw [zcC_c (c := τ.1 g 12) (c' := σ.1 h 12) (fun i hi hi2 => e2 i (by omega))]
theorem zc63 {d g h : Nat} {S : zS} {σ : zM} (hgh : h ≠ g) (hU : cU h S σ) (u : wU S) : ∃ τ, zev (d + 3) 63 [.inr (.inr (g, 7)), .inr (.inr (h, 7))] σ = some (0, 0, τ) ∧ zFr (fun g' k' _ => g' = g ∧ 7 ≤ k' ∧ k' ≤ 12) σ τ ∧ cU g S τ := by
  rw [ez_63]
  simp only [zc148_8, zc148_9, zc148_10, zc148_11, zc148_12, zbs]
  refine ⟨_, rfl, ⟨fun g' k' i' q => ?_, rfl⟩, cU_cp hU u ?_ ?_ ?_⟩
  · simp only [zcop_rd, zrd]
    rw [if_neg (by omega), if_neg (by omega), if_neg (by omega), if_neg (by omega), if_neg (by omega), if_neg (by omega)]
  · simp [zcop_rd, zrd]
  · intro k h8 h11 i hi
    rcases (by omega : k = 8 ∨ k = 9 ∨ k = 10 ∨ k = 11) with rfl | rfl | rfl | rfl <;> simp [zcop_rd, zrd, hgh, hi]
  · intro i hi
    simp [zcop_rd, zrd, hgh, hi]
theorem zc11 {d g h : Nat} {S : zS} {σ : zM} (hgh : h ≠ g) (w : wB S) (u : wU S) (hB : cB h S σ) (hK : cK h S σ) (hW : cW h S σ) (hU : cU h S σ) : ∃ τ, zev (d + 4) 11 [.inr (.inr (g, 1)), .inr (.inr (h, 1))] σ = some (0, 0, τ) ∧ zFr (fun g' k' _ => g' = g ∧ 1 ≤ k' ∧ k' ≤ 12) σ τ ∧ cB g S τ ∧ cK g S τ ∧ cW g S τ ∧ cU g S τ := by
  have w1 := w.2.1
  rw [ez_11]
  simp only [zc148_2, zc148_3, zc148_4, zc148_5, zc148_6, zbs]
  generalize hσ1 : zwI (zwI (zwI (zcop (zcop (zcop (zcop (zcop (zwI σ g 1 0 (σ.1 h 1 0)) h 2 0 g 2 0 9) h 3 0 g 3 0 9) h 4 0 g 4 0 9) h 5 0 g 5 0 9) h 6 0 g 6 0 9) g 1 6 _) g 1 7 _) g 1 8 _ = σ1
  have f1 : zFr (fun g' k' _ => g' = g ∧ 1 ≤ k' ∧ k' ≤ 12) σ σ1 := by
    subst hσ1
    refine ⟨fun g' k' i' q => ?_, rfl⟩
    simp only [zcop_rd, zrd]
    rw [if_neg (by omega), if_neg (by omega), if_neg (by omega), if_neg (by omega), if_neg (by omega), if_neg (by omega), if_neg (by omega), if_neg (by omega), if_neg (by omega)]
  have r1 : ∀ k, 2 ≤ k → k ≤ 6 → ∀ i, i < 9 → σ1.1 g k i = σ.1 h k i := by
    intro k a b i hi
    subst hσ1
    rcases (by omega : k = 2 ∨ k = 3 ∨ k = 4 ∨ k = 5 ∨ k = 6) with rfl | rfl | rfl | rfl | rfl <;> simp [zcop_rd, zrd, hgh, hi]
  have r2 : ∀ i, i = 0 ∨ i = 6 ∨ i = 7 ∨ i = 8 → σ1.1 g 1 i = σ.1 h 1 i := by
    intro i hi
    subst hσ1
    rcases hi with rfl | rfl | rfl | rfl <;> simp [zcop_rd, zrd, hgh]
  obtain ⟨τ, c1, c2, c3⟩ := zc63 (d := d) (g := g) hgh (cU_f hU fun k a b => zFr_f f1 (fun i q => hgh q.1)) u
  rw [c1]
  have hr1 : ∀ k, 2 ≤ k → k ≤ 6 → ∀ i, i < 9 → τ.1 g k i = σ.1 h k i := fun k a b i hi => (c2.1 g k i (by omega)).trans (r1 k a b i hi)
  have hr2 : ∀ i, i = 0 ∨ i = 6 ∨ i = 7 ∨ i = 8 → τ.1 g 1 i = σ.1 h 1 i := fun i hi => (c2.1 g 1 i (by omega)).trans (r2 i hi)
  refine ⟨τ, rfl, zFr_tt f1 (zFr_i c2 fun _ _ _ q => ⟨q.1, by omega⟩), ⟨?_, ?_⟩, ?_, ⟨?_, ?_⟩, c3⟩
  · rw [hr2 0 (by omega)]; exact hB.1
  · intro b hb
    rw [hr1 2 (by omega) (by omega) b (by omega), hr1 3 (by omega) (by omega) b (by omega), hr1 4 (by omega) (by omega) b (by omega), hr1 5 (by omega) (by omega) b (by omega), hr1 6 (by omega) (by omega) b (by omega)]
    exact hB.2 b hb
  · intro b hb
    rw [hr2 6 (by omega)]; exact hK b hb
  · rw [hr2 7 (by omega)]; exact hW.1
  · rw [hr2 8 (by omega)]; exact hW.2
theorem zc35 {d g h : Nat} {S : zS} {σ : zM} (hgh : h ≠ g) (w : wP S) (hP : cP h S σ) : ∃ τ, zev (d + 3) 35 [.inr (.inr (g, 15)), .inr (.inr (h, 15))] σ = some (0, 0, τ) ∧ zFr (fun g' k' _ => g' = g ∧ 15 ≤ k' ∧ k' ≤ 18) σ τ ∧ cP g S τ := by
  have w1 := w.2.1
  rw [ez_35]
  simp only [zc148_16, zc148_17, zc148_18, zbs]
  refine ⟨_, rfl, ⟨fun g' k' i' q => ?_, rfl⟩, ?_, fun p hp => ?_⟩
  · simp only [zcop_rd, zrd]
    rw [if_neg (by omega), if_neg (by omega), if_neg (by omega), if_neg (by omega)]
  · have e := hP.1
    simp [zcop_rd, zrd, e]
  · have hi : p < 8 := by omega
    have e := hP.2 p hp
    simp [zcop_rd, zrd, hgh, hi, e.1, e.2.1, e.2.2]
theorem zc40 {d g h : Nat} {S : zS} {σ : zM} (hgh : h ≠ g) (w : wR S) (hR : cR h S σ) : ∃ τ, zev (d + 3) 40 [.inr (.inr (g, 19)), .inr (.inr (h, 19))] σ = some (0, 0, τ) ∧ zFr (fun g' k' _ => g' = g ∧ 19 ≤ k' ∧ k' ≤ 21) σ τ ∧ cR g S τ := by
  have w1 := w.2.1
  rw [ez_40]
  simp only [zc148_20, zc148_21, zbs]
  refine ⟨_, rfl, ⟨fun g' k' i' q => ?_, rfl⟩, ?_, fun r hr => ?_⟩
  · simp only [zcop_rd, zrd]
    rw [if_neg (by omega), if_neg (by omega), if_neg (by omega)]
  · have e := hR.1
    simp [zcop_rd, zrd, e]
  · have hi : r < 6 := by omega
    have e := hR.2 r hr
    simp [zcop_rd, zrd, hgh, hi, e.1, e.2]
abbrev WG (g : Nat) : Nat → Nat → Nat → Prop := fun g' k' _ => g' = g ∧ k' ≤ 22
theorem zc25 {d g h : Nat} {S : zS} {σ : zM} (hgh : h ≠ g) (wa : wA S) (hA : cA h S σ) : ∃ τ, zev (d + 5) 25 [.inr (.inr (g, 0)), .inr (.inr (h, 0))] σ = some (0, 0, τ) ∧ zFr (WG g) σ τ ∧ cA g S τ := by
  obtain ⟨wb, ww, wp, wr, wu, wz⟩ := wa
  obtain ⟨h1, h2, h3, h4, h5, h6, h7⟩ := hA
  rw [ez_25]
  obtain ⟨τ1, a1, a2, a3, a4, a5, a6⟩ := zc11 (d := d) hgh wb wu h1 h2 h3 h6
  have n1 : ∀ k, τ1.1 h k = σ.1 h k := fun k => zFr_f a2 (fun i q => hgh q.1)
  obtain ⟨τ2, b1, b2, b3⟩ := zc35 (d := d + 1) (g := g) hgh wp (cP_f h4 fun k _ _ => n1 k)
  have n2 : ∀ k, τ2.1 h k = σ.1 h k := fun k => (zFr_f b2 (fun i q => hgh q.1)).trans (n1 k)
  obtain ⟨τ3, c1, c2, c3⟩ := zc40 (d := d + 1) (g := g) hgh wr (cR_f h5 (by rw [n2]) fun k _ _ => n2 k)
  have n3 : ∀ k, τ3.1 h k = σ.1 h k := fun k => (zFr_f c2 (fun i q => hgh q.1)).trans (n2 k)
  simp only [a1, b1, c1, zbs]
  have m2 : ∀ k, k < 15 ∨ 18 < k → τ2.1 g k = τ1.1 g k := fun k hk => zFr_f b2 (fun i q => by omega)
  have m3 : ∀ k, k < 19 → τ3.1 g k = τ2.1 g k := fun k hk => zFr_f c2 (fun i q => by omega)
  refine ⟨_, rfl, zFr_tt (zFr_tt (zFr_tt (zFr_i a2 fun _ _ _ q => ⟨q.1, by omega⟩) (zFr_i b2 fun _ _ _ q => ⟨q.1, by omega⟩)) (zFr_i c2 fun _ _ _ q => ⟨q.1, by omega⟩)) (zFr_w ⟨rfl, by omega⟩), ?_, ?_, ?_, ?_, ?_, ?_, ?_⟩
  · exact cB_f a3 fun k _ _ => by rw [zfn (by omega), m3 k (by omega), m2 k (by omega)]
  · exact cK_f a4 (by rw [zfn (by omega), m3 1 (by omega), m2 1 (by omega)])
  · exact cW_f a5 (by rw [zfn (by omega), m3 1 (by omega), m2 1 (by omega)])
  · exact cP_f b3 fun k _ _ => by rw [zfn (by omega), m3 k (by omega)]
  · exact cR_f c3 (zfe (by omega)) fun k _ _ => zfn (by omega)
  · exact cU_f a6 fun k _ _ => by rw [zfn (by omega), m3 k (by omega), m2 k (by omega)]
  · unfold cZ at h7 ⊢
    rw [zfs, n3]; exact h7
theorem iI_lt320 {z : Int} (hz : zrn z) : (iI z < 320) = (z < 320) := iI_lt (b := 320) hz (by decide)
theorem zm153 {d : Nat} {S : zS} {σ : zM} (h : mS 61 S σ) : ∃ τ, zev (d + 1) 153 [.inr (.inr (0, 60))] σ = some (0, 0, τ) ∧ zFr (Wk 0 63) σ τ ∧ mS 63 S τ := by
  have key : ∀ n k (τ0 : zM), k + n = 320 → zFr (Wk 0 63) σ τ0 → (∀ i, i < k → τ0.1 0 63 i = iI (S i)) → ∃ τ, zrun (zev d) zT_153 2 [some (.inr (.inr (0, 60))), some (.inl (iI k))] [] τ0 = some (0, 0, τ) ∧ zFr (Wk 0 63) σ τ ∧ mS 63 S τ := by
    intro n
    induction n with
    | zero =>
      intro k τ0 hk f hs
      rw [ez_153_2, if_neg (by rw [iI_lt320 (by omega)]; omega)]
      exact ⟨τ0, rfl, f, fun i hi => hs i (by omega)⟩
    | succ n ih =>
      intro k τ0 hk f hs
      rw [ez_153_2, if_pos (by rw [iI_lt320 (by omega)]; omega)]
      simp only [zgd_t (iI_ink (z := k) (k := k) rfl (show k < 320 by omega) (by decide)), iI_Nn (show k ≤ 2147483647 by omega), hki1]
      refine ih (k + 1) _ (by omega) (zFr_tt f (zFr_w ⟨rfl, rfl⟩)) (fun i hi => ?_)
      by_cases e : i = k
      · subst e
        rw [zfs, f.1 _ _ _ (by omega)]
        exact h i (by omega)
      · rw [zfe (fun z => e z.2.2)]
        exact hs i (by omega)
  rw [ez_153]
  exact key 320 0 σ rfl (zFr_r σ) (fun i hi => absurd hi (Nat.not_lt_zero _))
theorem zm154 {d : Nat} {S : zS} {σ : zM} (h : mS 63 S σ) : ∃ τ, zev (d + 1) 154 [.inr (.inr (0, 60))] σ = some (0, 0, τ) ∧ zFr (Wk 0 61) σ τ ∧ mS 61 S τ := by
  have key : ∀ n k (τ0 : zM), k + n = 320 → zFr (Wk 0 61) σ τ0 → (∀ i, i < k → τ0.1 0 61 i = iI (S i)) → ∃ τ, zrun (zev d) zT_154 2 [some (.inr (.inr (0, 60))), some (.inl (iI k))] [] τ0 = some (0, 0, τ) ∧ zFr (Wk 0 61) σ τ ∧ mS 61 S τ := by
    intro n
    induction n with
    | zero =>
      intro k τ0 hk f hs
      rw [ez_154_2, if_neg (by rw [iI_lt320 (by omega)]; omega)]
      exact ⟨τ0, rfl, f, fun i hi => hs i (by omega)⟩
    | succ n ih =>
      intro k τ0 hk f hs
      rw [ez_154_2, if_pos (by rw [iI_lt320 (by omega)]; omega)]
      simp only [zgd_t (iI_ink (z := k) (k := k) rfl (show k < 320 by omega) (by decide)), iI_Nn (show k ≤ 2147483647 by omega), hki1]
      refine ih (k + 1) _ (by omega) (zFr_tt f (zFr_w ⟨rfl, rfl⟩)) (fun i hi => ?_)
      by_cases e : i = k
      · subst e
        rw [zfs, f.1 _ _ _ (by omega)]
        exact h i (by omega)
      · rw [zfe (fun z => e z.2.2)]
        exact hs i (by omega)
  rw [ez_154]
  exact key 320 0 σ rfl (zFr_r σ) (fun i hi => absurd hi (Nat.not_lt_zero _))
def aStd (S : zS) (x : Int) : Nat → Int
  | 0 => 0
  | n + 1 => if S (53 + 3 * n) = x ∧ 0 ≤ aSeat S n then aStd S x n + S (52 + 3 * n) else aStd S x n
theorem aStd_b {S : zS} {x : Int} (w : wP S) : ∀ (n : Nat), n ≤ (S 2).toNat → 0 ≤ aStd S x n ∧ aStd S x n ≤ 200 * n
  | 0, _ => ⟨by show (0 : Int) ≤ 0; omega, by show (0 : Int) ≤ 200 * ((0 : Nat) : Int); omega⟩
  | n + 1, hn => by
    have h := aStd_b (x := x) w n (by omega)
    have w2 := w.2.2 n (by omega)
    show 0 ≤ (if S (53 + 3 * n) = x ∧ 0 ≤ aSeat S n then aStd S x n + S (52 + 3 * n) else aStd S x n) ∧ (if S (53 + 3 * n) = x ∧ 0 ≤ aSeat S n then aStd S x n + S (52 + 3 * n) else aStd S x n) ≤ 200 * ((n + 1 : Nat) : Int)
    split <;> omega
theorem zc38 {d g : Nat} {S : zS} {σ : zM} {x : Int} (hP : cP g S σ) (wb : wB S) (w : wP S) (hx : 0 ≤ x ∧ x ≤ 1) : zev (d + 1) 38 [.inr (.inr (g, 15)), .inl (iI x)] σ = some (iI (aStd S x ((S 2).toNat)), 0, σ) := by
  have b1 := wb.2.1
  have w0 := w.1
  have w1 := w.2.1
  have key : ∀ i, i ≤ (S 2).toNat → zrun (zev d) zT_38 4 [some (.inr (.inr (g, 15))), some (.inl (iI x)), some (.inl (iI (aStd S x i))), some (.inl (iI i))] [] σ = some (iI (aStd S x ((S 2).toNat)), 0, σ) := by
    intro i hi
    refine zloop (n := (S 2).toNat) (P := fun i => zrun (zev d) zT_38 4 [some (.inr (.inr (g, 15))), some (.inl (iI x)), some (.inl (iI (aStd S x i))), some (.inl (iI i))] [] σ = some (iI (aStd S x ((S 2).toNat)), 0, σ)) ?_ ?_ hi
    · rw [ez_38_4, hP.1, if_neg (by rw [iI_lt (by omega) (by omega)]; omega)]
    · intro i hi ih
      have hp := hP.2 i hi
      have w2 := w.2.2 i hi
      have hr := aSeat_r w hi
      have e : aStd S x (i + 1) = if S (53 + 3 * i) = x ∧ 0 ≤ aSeat S i then aStd S x i + S (52 + 3 * i) else aStd S x i := rfl
      have hcz : zrn (cE (aSeat S i)) := by unfold cE; split <;> omega
      rw [ez_38_4, hP.1, if_pos (by rw [iI_lt (by omega) (by omega)]; omega)]
      simp only [zgd_t (iI_ink (z := i) (k := i) rfl (show i < 8 by omega) (by decide)), iI_Nn (show i ≤ 2147483647 by omega), hp.1, hp.2.1, hp.2.2, iI_eq (show zrn (S (53 + 3 * i)) by omega) (show zrn x by omega), iI_n9 hcz, hki1, iI_add]
      by_cases q1 : S (53 + 3 * i) = x
      · rw [if_pos q1]
        by_cases q2 : aSeat S i < 0
        · rw [if_neg (fun z => by omega)] at e
          rw [if_pos (show cE (aSeat S i) = -9 from if_pos q2)]
          rw [e] at ih
          exact ih
        · rw [if_pos ⟨q1, by omega⟩] at e
          rw [if_neg (by rw [show cE (aSeat S i) = aSeat S i from if_neg q2]; omega)]
          rw [e] at ih
          exact ih
      · rw [if_neg (fun z => q1 z.1)] at e
        rw [if_neg q1]
        rw [e] at ih
        exact ih
  rw [ez_38]
  exact key 0 (by omega)
abbrev W67 : Nat → Nat → Nat → Prop := fun g k _ => g = 0 ∧ (k = 61 ∨ k = 63 ∨ k = 64 ∨ k = 65 ∨ k = 66 ∨ k = 67)
theorem zm193_25 {d : Nat} {S T : zS} (wb : wB T) (w : wP T) : ∀ (n k : Nat) (σ : zM) (d1 : Option zV), k + n = (T 2).toNat → mS 61 T σ → mS 63 S σ → (∀ x : Nat, x ≤ 1 → σ.1 0 67 x = iI (aStd T x k)) → ∃ τ, zrun (zev (d + 3)) zT_193 25 [some (.inr (.inr (0, 60))), d1, some (.inl (iI k))] [] σ = some (0, 0, τ) ∧ zFr W67 σ τ ∧ mS 61 S τ ∧ ∀ x : Nat, x ≤ 1 → τ.1 0 67 x = iI (aStd T x ((T 2).toNat))
  | 0, k, σ, d1, hk, hT, hS, hx => by
    have w0 := w.1
    have w1 := w.2.1
    have ek : k = (T 2).toNat := by omega
    subst ek
    rw [ez_193_25, hT 2 (by decide), if_neg (by rw [iI_lt (by omega) (by omega)]; omega)]
    obtain ⟨τ, c1, c2, c3⟩ := zm154 (d := d + 2) hS
    rw [c1]
    exact ⟨τ, rfl, zFr_i c2 fun _ _ _ q => ⟨q.1, Or.inl q.2⟩, c3, fun x hx1 => by rw [c2.1 _ _ _ (by omega)]; exact hx x hx1⟩
  | n + 1, k, σ, d1, hk, hT, hS, hx => by
    have b1 := wb.2.1
    have w0 := w.1
    have w1 := w.2.1
    have w2 := w.2.2 k (by omega)
    have hr := aSeat_r w (show k < (T 2).toNat by omega)
    have e1 := zm178 (d := d + 1) (p := k) (w := 1) hT (by omega)
    rw [show 52 + 3 * k + 1 = 53 + 3 * k by omega] at e1
    have e1 : zev (d + 3) 178 [.inr (.inr (0, 60)), .inl (iI k), .inl 1] σ = _ := e1
    have e0 := zm178 (d := d + 1) (p := k) (w := 0) hT (by omega)
    have e0 : zev (d + 3) 178 [.inr (.inr (0, 60)), .inl (iI k), .inl 0] σ = some (iI (T (52 + 3 * k)), 0, σ) := e0
    obtain ⟨s, hs⟩ := zint (show 0 ≤ T (53 + 3 * k) by omega)
    have hs2 : s < 2 := by omega
    have e : ∀ x : Nat, aStd T x (k + 1) = if T (53 + 3 * k) = x ∧ 0 ≤ aSeat T k then aStd T x k + T (52 + 3 * k) else aStd T x k := fun x => rfl
    have hN : (T 2).toNat ≤ 8 := by omega
    rw [ez_193_25, hT 2 (by decide), if_pos (by rw [iI_lt (by omega) (by omega)]; omega), e1, hs]
    have h79 := zm179 (d := d) hT (show k < 8 by omega)
    simp only [zbs, zgd_t (iI_ink (z := s) (k := s) rfl hs2 (by decide)), iI_Nn (show s ≤ 2147483647 by omega), h79, hx s (by omega), e0, hki1]
    have step : ∀ (v : Int), (v = if 0 ≤ aSeat T k then T (52 + 3 * k) else 0) → ∃ τ, zrun (zev (d + 3)) zT_193 25 [some (.inr (.inr (0, 60))), none, some (.inl (iI ((k + 1 : Nat) : Int)))] [] (zwI σ 0 67 s (iI (aStd T s k) + iI v)) = some (0, 0, τ) ∧ zFr W67 σ τ ∧ mS 61 S τ ∧ ∀ x : Nat, x ≤ 1 → τ.1 0 67 x = iI (aStd T x ((T 2).toNat)) := by
      intro v hv
      obtain ⟨τ, g1, g2, g3, g4⟩ := zm193_25 (d := d) wb w n (k + 1) (zwI σ 0 67 s (iI (aStd T s k) + iI v)) none (by omega) (mS_f hT (zfn (by omega))) (mS_f hS (zfn (by omega))) (fun x hx1 => by
        rw [e x, hs]
        by_cases q : x = s
        · subst q
          rw [zfs, iI_add, hv]
          by_cases q2 : 0 ≤ aSeat T k
          · rw [if_pos q2, if_pos ⟨rfl, q2⟩]
          · rw [if_neg q2, if_neg (fun z => q2 z.2), Int.add_zero]
        · rw [zfe (fun z => q z.2.2), if_neg (fun z => by have := z.1; omega)]
          exact hx x hx1)
      exact ⟨τ, g1, zFr_tt (zFr_w ⟨rfl, by omega⟩) g2, g3, g4⟩
    by_cases q : aSeat T k < 0
    · rw [if_pos (by rw [iI_lt0 (by omega)]; exact q)]
      exact step 0 (by rw [if_neg (by omega)])
    · rw [if_neg (by rw [iI_lt0 (by omega)]; exact q)]
      exact step (T (52 + 3 * k)) (by rw [if_pos (by omega)])
theorem zm193 {d : Nat} {S : zS} {σ : zM} (hS : mS 61 S σ) (wa : wA S) : ∃ τ, zev (d + 9) 193 [.inr (.inr (0, 60))] σ = some (0, 0, τ) ∧ zFr W67 σ τ ∧ mS 61 S τ ∧ ∀ x : Nat, x ≤ 1 → τ.1 0 67 x = iI (aStd (aFl 9 S).1 x (((aFl 9 S).1 2).toNat)) := by
  rw [ez_193]
  obtain ⟨τ1, a1, a2, a3⟩ := zm153 (d := d + 7) hS
  obtain ⟨τ2, b1, b2, b3⟩ := zm190 (d := d) (mS_g hS a2 (fun i => by omega)) wa
  have h63 : mS 63 S τ2 := mS_f a3 (zFr_f b2 (fun i => by omega))
  simp only [a1, b1, zbs]
  obtain ⟨τ3, c1, c2, c3, c4⟩ := zm193_25 (d := d + 5) (S := S) (T := (aFl 9 S).1) (wA_fl 9 wa).1 (wA_fl 9 wa).2.2.1 (((aFl 9 S).1 2).toNat) 0 (zwI (zwI τ2 0 67 0 0) 0 67 1 0) (some (.inl (iI (aFl 9 S).2))) (by omega) (mS_f (mS_f b3 (zfn (by omega))) (zfn (by omega))) (mS_f (mS_f h63 (zfn (by omega))) (zfn (by omega))) (fun x hx => by
    rcases (by omega : x = 0 ∨ x = 1) with rfl | rfl
    · rw [zfe (by omega), zfs]; rfl
    · rw [zfs]; rfl)
  refine ⟨τ3, c1, ?_, c3, c4⟩
  exact zFr_tt (zFr_i a2 fun _ _ _ q => ⟨q.1, by omega⟩) (zFr_tt (zFr_i b2 fun _ _ _ q => ⟨q.1, by omega⟩) (zFr_tt (zFr_tt (zFr_w ⟨rfl, by omega⟩) (zFr_w ⟨rfl, by omega⟩)) c2))
def aRm (S : zS) (f : Nat → Int) (b : Nat) : Nat → Int
  | 0 => f b
  | n + 1 => bif aAb S b n then (if f n < aRm S f b n then f n else aRm S f b n) else aRm S f b n
def aRoom (S : zS) (f : Nat → Int) (b : Nat) : Int := if 0 < aRm S f b ((S 0).toNat) then aRm S f b ((S 0).toNat) else 0
theorem aRm_le {S : zS} {f : Nat → Int} {b : Nat} : ∀ {n u : Nat}, u < n → aAb S b u = true → aRm S f b n ≤ f u
  | 0, _, h, _ => absurd h (Nat.not_lt_zero _)
  | n + 1, u, h, hu => by
    show (bif aAb S b n then (if f n < aRm S f b n then f n else aRm S f b n) else aRm S f b n) ≤ f u
    by_cases e : u = n
    · subst e
      rw [hu, cond_true]
      split <;> omega
    · have := aRm_le (f := f) (n := n) (u := u) (by omega) hu
      cases aAb S b n
      · exact this
      · rw [cond_true]; split <;> omega
theorem aRm_at {S : zS} {f : Nat → Int} {b : Nat} : ∀ (n : Nat), n ≤ (S 0).toNat → ∃ u, (u = b ∨ u < (S 0).toNat) ∧ aAb S b u = true ∧ aRm S f b n = f u
  | 0, _ => ⟨b, Or.inl rfl, aAb_s, rfl⟩
  | n + 1, hn => by
    obtain ⟨u, h1, h2, h3⟩ := aRm_at (S := S) (f := f) (b := b) n (by omega)
    have e : aRm S f b (n + 1) = bif aAb S b n then (if f n < aRm S f b n then f n else aRm S f b n) else aRm S f b n := rfl
    cases q : aAb S b n
    · rw [q, cond_false] at e
      exact ⟨u, h1, h2, e.trans h3⟩
    · rw [q, cond_true] at e
      by_cases q2 : f n < aRm S f b n
      · rw [if_pos q2] at e
        exact ⟨n, Or.inr (by omega), q, e⟩
      · rw [if_neg q2] at e
        exact ⟨u, h1, h2, e.trans h3⟩
theorem zc32 {d g b : Nat} {S : zS} {σ : zM} {f : Nat → Int} (hB : cB g S σ) (w : wB S) (hs : cS g S f σ) (hf : fR S f) (hb : b < (S 0).toNat) : zev (d + 3) 32 [.inr (.inr (g, 0)), .inl (iI b)] σ = some (iI (aRoom S f b), 0, σ) := by
  have w0 := w.1
  have w1 := w.2.1
  have hr : ∀ i, i ≤ (S 0).toNat → -100000 ≤ aRm S f b i ∧ aRm S f b i ≤ 100000 := by
    intro i hi
    obtain ⟨u, h1, h2, h3⟩ := aRm_at (S := S) (f := f) (b := b) i hi
    rw [h3]
    rcases h1 with rfl | h1
    · exact hf _ hb
    · exact hf u h1
  have key : ∀ i, i ≤ (S 0).toNat → zrun (zev (d + 2)) zT_32 9 [some (.inr (.inr (g, 0))), some (.inl (iI b)), some (.inl (iI (aRm S f b i))), some (.inl (iI i))] [] σ = some (iI (aRoom S f b), 0, σ) := by
    intro i hi
    refine zloop (n := (S 0).toNat) (P := fun i => zrun (zev (d + 2)) zT_32 9 [some (.inr (.inr (g, 0))), some (.inl (iI b)), some (.inl (iI (aRm S f b i))), some (.inl (iI i))] [] σ = some (iI (aRoom S f b), 0, σ)) ?_ ?_ hi
    · have h := hr ((S 0).toNat) (Nat.le_refl _)
      rw [ez_32_9, hB.1, if_neg (by rw [iI_lt (by omega) (by omega)]; omega)]
      show (Option.bind (zev (d + 2) 272 [.inl (iI 0), _] σ) _) = _
      rw [zc272 (by omega) (by omega)]
      rfl
    · intro i hi ih
      have h := hr i (by omega)
      have h2 := hf i hi
      have e : aRm S f b (i + 1) = bif aAb S b i then (if f i < aRm S f b i then f i else aRm S f b i) else aRm S f b i := rfl
      rw [ez_32_9, hB.1, if_pos (by rw [iI_lt (by omega) (by omega)]; omega), zc15n hB ⟨w0, w1⟩ hb (show i < 9 by omega)]
      simp only [zbs, zBi, zgd_t (iI_ink (z := i) (k := i) rfl (show i < 9 by omega) (by decide)), iI_Nn (show i ≤ 2147483647 by omega), hs i hi, hki1, zc273 (show zrn (aRm S f b i) by omega) (show zrn (f i) by omega)]
      cases q : aAb S b i
      · rw [q, cond_false] at e
        rw [cond_false, ← e]; exact ih
      · rw [q, cond_true] at e
        rw [cond_true, ← e]; exact ih
  rw [ez_32]
  simp only [zgd_t (iI_ink (z := b) (k := b) rfl (show b < 9 by omega) (by decide)), iI_Nn (show b ≤ 2147483647 by omega), hs b hb]
  exact key 0 (by omega)
def aCh (S : zS) (f : Nat → Int) : Nat → Int → Int → Int
  | 0, _, m => m
  | n + 1, z, m => if z < 0 then m else aCh S f n (aPar S z.toNat) (if f z.toNat < m then f z.toNat else m)
theorem aCh_le {S : zS} {f : Nat → Int} (w : wB S) : ∀ (n : Nat) (z m : Int), z < n → z < S 0 → -1 ≤ z → aCh S f n z m ≤ m ∧ (∀ u, aAbI S z u = true → aCh S f n z m ≤ f u) ∧ (aCh S f n z m = m ∨ ∃ u, aAbI S z u = true ∧ aCh S f n z m = f u)
  | 0, z, m, h, _, _ => ⟨Int.le_refl _, (fun u hu => by rw [aAbI_n (by omega)] at hu; cases hu), Or.inl rfl⟩
  | n + 1, z, m, h, hz, hz1 => by
    by_cases q : z < 0
    · have e : aCh S f (n + 1) z m = m := if_pos q
      rw [e]
      exact ⟨Int.le_refl _, (fun u hu => by rw [aAbI_n q] at hu; cases hu), Or.inl rfl⟩
    · obtain ⟨c, rfl⟩ := zint (show 0 ≤ z by omega)
      have e : aCh S f (n + 1) c m = aCh S f n (aPar S c) (if f c < m then f c else m) := if_neg q
      have w2 := w.2.2 c (by omega)
      have hp : aPar S c < c ∧ -1 ≤ aPar S c := by unfold aPar; omega
      obtain ⟨h1, h2, h3⟩ := aCh_le (f := f) w n (aPar S c) (if f c < m then f c else m) (by omega) (by omega) (by omega)
      rw [e]
      have hm : (if f c < m then f c else m) ≤ m ∧ (if f c < m then f c else m) ≤ f c := by split <;> omega
      refine ⟨by omega, fun u hu => ?_, ?_⟩
      · rw [aAbI_p, aAb_u w (by omega), Bool.or_eq_true] at hu
        rcases hu with hu | hu
        · have := Nat.eq_of_beq_eq_true hu
          subst this
          omega
        · exact h2 u hu
      · rcases h3 with h3 | ⟨u, hu, h3⟩
        · by_cases q2 : f c < m
          · rw [if_pos q2] at h3 ⊢
            exact Or.inr ⟨c, by rw [aAbI_p]; exact aAb_s, h3⟩
          · rw [if_neg q2] at h3 ⊢
            exact Or.inl h3
        · exact Or.inr ⟨u, by rw [aAbI_p, aAb_u w (by omega), hu, Bool.or_true], h3⟩
theorem aCh_e {S : zS} {f : Nat → Int} (w : wB S) {b : Nat} (hb : b < (S 0).toNat) : aCh S f 9 b (f b) = aRm S f b ((S 0).toNat) := by
  have w1 := w.2.1
  obtain ⟨h1, h2, h3⟩ := aCh_le (f := f) w 9 b (f b) (by omega) (by omega) (by omega)
  obtain ⟨u, k1, k2, k3⟩ := aRm_at (S := S) (f := f) (b := b) ((S 0).toNat) (Nat.le_refl _)
  have a1 : aCh S f 9 b (f b) ≤ aRm S f b ((S 0).toNat) := by
    rw [k3]
    exact h2 u (by rw [aAbI_p]; exact k2)
  have a2 : aRm S f b ((S 0).toNat) ≤ aCh S f 9 b (f b) := by
    rcases h3 with h3 | ⟨v, hv, h3⟩
    · rw [h3]; exact aRm_le hb aAb_s
    · rw [h3]
      rw [aAbI_p] at hv
      have := aAb_le w (b + 1) b (by omega) hb hv
      exact aRm_le (by omega) hv
  omega
theorem zm196_16 {d : Nat} {S : zS} {σ : zM} {f : Nat → Int} (hS : mS 61 S σ) (w : wB S) (hf : mF S f σ) (hr : fR S f) : ∀ (n : Nat) (z m : Int) (d1 : Option zV), z < n → z < S 0 → -1 ≤ z → -100000 ≤ m ∧ m ≤ 100000 → zrun (zev (d + 3)) zT_196 16 [some (.inr (.inr (0, 60))), d1, some (.inl (iI m)), some (.inl (iI z))] [] σ = some (iI (if 0 < aCh S f n z m then aCh S f n z m else 0), 0, σ)
  | 0, z, m, d1, h, _, _, hm => by
    rw [ez_196_16, if_pos (by rw [iI_lt0 (by omega)]; omega)]
    show (if iI m < 0 then some (iI 0, 0, σ) else _) = some (iI (if 0 < m then m else 0), 0, σ)
    simp only [iI_lt0 (show zrn m by omega)]
    by_cases q : m < 0
    · rw [if_pos q, if_neg (by omega)]
    · rw [if_neg q]
      by_cases q2 : 0 < m
      · rw [if_pos q2]
      · rw [if_neg q2, show m = 0 by omega]
  | n + 1, z, m, d1, h, hz, hz1, hm => by
    have w0 := w.1
    have w1 := w.2.1
    by_cases q : z < 0
    · have e : aCh S f (n + 1) z m = m := if_pos q
      rw [e, ez_196_16, if_pos (by rw [iI_lt0 (by omega)]; omega)]
      show (if iI m < 0 then some (iI 0, 0, σ) else _) = some (iI (if 0 < m then m else 0), 0, σ)
      simp only [iI_lt0 (show zrn m by omega)]
      by_cases q : m < 0
      · rw [if_pos q, if_neg (by omega)]
      · rw [if_neg q]
        by_cases q2 : 0 < m
        · rw [if_pos q2]
        · rw [if_neg q2, show m = 0 by omega]
    · obtain ⟨c, rfl⟩ := zint (show 0 ≤ z by omega)
      have e : aCh S f (n + 1) c m = aCh S f n (aPar S c) (if f c < m then f c else m) := if_neg q
      have w2 := w.2.2 c (by omega)
      have hp : aPar S c < c ∧ -1 ≤ aPar S c := by unfold aPar; omega
      have hf0 := hf
      obtain ⟨hh, ee, h1, h2, h3⟩ := hf0
      obtain ⟨a1, a2, a3⟩ := h3 c (by omega)
      have r1 := hr c (by omega)
      rw [e, ez_196_16, if_neg (by rw [iI_lt0 (by omega)]; omega)]
      simp only [zgd_t (iI_ink (z := c) (k := c) rfl (show c < 9 by omega) (by decide)), iI_Nn (show c ≤ 2147483647 by omega), h1 c (by omega), h2 c (by omega), iI_sub, ← a1, iI_lt (show zrn (f c) by omega) (show zrn m by omega), zm158 (d := d) hS (show c < 9 by omega), zbs]
      by_cases q2 : f c < m
      · rw [if_pos q2, if_pos q2]
        exact zm196_16 hS w hf hr n (aPar S c) (f c) none (by omega) (by omega) (by omega) r1
      · rw [if_neg q2, if_neg q2]
        exact zm196_16 hS w hf hr n (aPar S c) m none (by omega) (by omega) (by omega) hm
theorem zm196 {d b : Nat} {S : zS} {σ : zM} {f : Nat → Int} (hS : mS 61 S σ) (w : wB S) (hf : mF S f σ) (hr : fR S f) (hb : b < (S 0).toNat) : zev (d + 4) 196 [.inr (.inr (0, 60)), .inl (iI b)] σ = some (iI (aRoom S f b), 0, σ) := by
  have w1 := w.2.1
  have hf0 := hf
  obtain ⟨hh, ee, h1, h2, h3⟩ := hf0
  obtain ⟨a1, a2, a3⟩ := h3 b hb
  rw [ez_196]
  simp only [zgd_t (iI_ink (z := b) (k := b) rfl (show b < 9 by omega) (by decide)), iI_Nn (show b ≤ 2147483647 by omega), h1 b hb, h2 b hb, iI_sub, ← a1]
  rw [zm196_16 (d := d) hS w hf hr 9 b (f b) _ (by omega) (by omega) (by omega) (hr b hb), aCh_e w hb]
  rfl
abbrev zXt : Type := Nat × (Nat → Int)
abbrev zXr : Type := Nat × (Nat → Nat → Int)
abbrev zXh : Type := (Nat → Int) × (Nat → Int) × (Nat → Nat → Int) × (Nat → Int) × (Nat → Int) × (Nat → Int)
abbrev zXx : Type := zS × zS × Bool × zXt × zXr × zXh × zXt
def xt (x : zXx) : zXt := x.2.2.2.1
def xr (x : zXx) : zXr := x.2.2.2.2.1
def xh (x : zXx) : zXh := x.2.2.2.2.2.1
def xa (x : zXx) : zXt := x.2.2.2.2.2.2
def wT (t : zXt) : Prop := t.1 ≤ 200 ∧ ∀ i, i < t.1 → 0 ≤ t.2 i ∧ t.2 i ≤ 255
def wO (r : zXr) : Prop := r.1 ≤ 9 ∧ ∀ k w, k < r.1 → w < 3 → zrn (r.2 k w)
def wH (h : zXh) : Prop := ∀ j, j < 4 → -1 ≤ h.1 j ∧ h.1 j ≤ 4 ∧ 0 ≤ h.2.1 j ∧ h.2.1 j ≤ 40 ∧ (∀ i, i < 40 → zrn (h.2.2.1 j i)) ∧ 0 ≤ h.2.2.2.1 j ∧ h.2.2.2.1 j ≤ 2 ∧ (h.2.2.2.1 j ≠ 0 → 0 ≤ h.2.2.2.2.1 j ∧ h.2.2.2.2.1 j ≤ 40) ∧ -1 ≤ h.2.2.2.2.2 j ∧ h.2.2.2.2.2 j ≤ 4
def wC (a : zXt) : Prop := a.1 ≤ 30 ∧ ∀ i, i < a.1 → zrn (a.2 i)
def wK (S : zS) : Prop := ∀ b, b < (S 0).toNat → 1 ≤ S (8 + 5 * b) → S (11 + 5 * (S (8 + 5 * b) - 1).toNat) = 1 → S (11 + 5 * b) = 1
theorem wK_c {S T : zS} (k : wK S) (w : wB S) (h0 : T 0 = S 0) (e : ∀ i, 7 ≤ i → i < 52 → (i - 7) % 5 = 1 ∨ (i - 7) % 5 = 4 → T i = S i) : wK T := by
  have w1 := w.2.1
  intro b hb h1 h2
  rw [h0] at hb
  have w2 := w.2.2 b hb
  have e1 := e (8 + 5 * b) (by omega) (by omega) (by omega)
  rw [e1] at h1 h2
  rw [e (11 + 5 * (S (8 + 5 * b) - 1).toNat) (by omega) (by omega) (by omega)] at h2
  rw [e (11 + 5 * b) (by omega) (by omega) (by omega)]
  exact k b hb h1 h2
theorem wK_bk {S : zS} {w : Nat} (k : wK S) (wb : wB S) : wK (aBk S w ((S 0).toNat)) := by
  have w1 := wb.2.1
  intro b hb h1 h2
  rw [aBk_n (i := 0) (by omega) (by omega)] at hb
  have w2 := wb.2.2 b hb
  rw [aBk_n (i := 8 + 5 * b) (by omega) (by omega)] at h1 h2
  rw [aBk_s] at h2 ⊢
  by_cases q : b < (S 0).toNat ∧ aAb S b w = true
  · rw [if_pos q]
  · rw [if_neg q]
    obtain ⟨p, hp⟩ := zint (show 0 ≤ S (8 + 5 * b) - 1 by omega)
    have np : ¬ ((S (8 + 5 * b) - 1).toNat < (S 0).toNat ∧ aAb S (S (8 + 5 * b) - 1).toNat w = true) := fun z => by
      refine q ⟨hb, ?_⟩
      rw [aAb_u wb hb, show aPar S b = (p : Int) from hp, aAbI_p]
      rw [hp, Int.toNat_natCast] at z
      rw [z.2, Bool.or_true]
    rw [if_neg np] at h2
    exact k b hb h1 h2
theorem wK_fal {S : zS} {w : Nat} (k : wK S) (wa : wA S) : wK (aFal S w) := by
  have p1 := wa.2.2.1.2.1
  have b1 := wa.1.2.1
  have e : ∀ i, i < 52 → aFal S w i = aBk S w ((S 0).toNat) i := fun i hi => aDn_n (by omega) (by omega)
  exact wK_c (wK_bk k wa.1) (wA_bk wa (by omega)).1 (e 0 (by decide)) (fun i _ hi _ => e i hi)
theorem wK_fl : ∀ (n : Nat) {S : zS}, wA S → wK S → wK (aFl n S).1
  | 0, _, _, k => k
  | n + 1, S, h, k => by
    unfold aFl
    split
    · exact k
    · exact wK_fl n (wA_fal h) (wK_fal k h)
def WX (x : zXx) : Prop := wA x.1 ∧ (x.2.2.1 = true → wA x.2.1) ∧ wT (xt x) ∧ wO (xr x) ∧ wH (xh x) ∧ wC (xa x) ∧ wK x.1 ∧ (x.2.2.1 = true → wK x.2.1)
def cKe (x : zXx) (σ : zM) : Prop := σ.1 0 30 3 = zB x.2.2.1 ∧ (x.2.2.1 = true → cA 2 x.2.1 σ)
def cTp (t : zXt) (σ : zM) : Prop := σ.1 0 31 0 = iI t.1 ∧ ∀ i, i < t.1 → σ.1 0 32 i = iI (t.2 i)
def cRo (r : zXr) (σ : zM) : Prop := σ.1 0 38 0 = iI r.1 ∧ ∀ k w, k < r.1 → w < 3 → σ.1 k 40 w = iI (r.2 k w)
def lI (z : Int) : Int64 := Int64.ofInt z
def cHo (h : zXh) (σ : zM) : Prop := ∀ j, j < 4 → σ.1 0 42 j = iI (h.1 j) ∧ (0 ≤ h.1 j → σ.1 0 43 j = iI (h.2.1 j)) ∧ (0 ≤ h.1 j → ∀ i, i < 40 → σ.2 j 45 i = lI (h.2.2.1 j i)) ∧ σ.1 0 46 j = iI (h.2.2.2.1 j) ∧ (h.2.2.2.1 j ≠ 0 → σ.1 0 47 j = iI (h.2.2.2.2.1 j)) ∧ (h.2.2.2.1 j = 2 → σ.1 0 48 j = iI (h.2.2.2.2.2 j))
def cAc (a : zXt) (σ : zM) : Prop := σ.1 0 49 0 = iI a.1 ∧ ∀ i, i < a.1 → σ.1 0 50 i = iI (a.2 i)
def RC (x : zXx) (σ : zM) : Prop := cA 0 x.1 σ ∧ cKe x σ ∧ cTp (xt x) σ ∧ cRo (xr x) σ ∧ cHo (xh x) σ ∧ cAc (xa x) σ
def mKe (x : zXx) (σ : zM) : Prop := σ.1 0 60 3 = zB x.2.2.1 ∧ (x.2.2.1 = true → mS 62 x.2.1 σ)
def mTp (t : zXt) (σ : zM) : Prop := σ.1 0 60 18 = iI t.1 ∧ ∀ i, i < t.1 → σ.1 0 72 i = iI (t.2 i)
def mRo (r : zXr) (σ : zM) : Prop := σ.1 0 60 16 = iI r.1 ∧ ∀ k w, k < r.1 → w < 3 → σ.1 0 71 (3 * k + w) = iI (r.2 k w)
def mHo (h : zXh) (σ : zM) : Prop := ∀ j, j < 4 → σ.1 0 73 j = iI (h.1 j) ∧ (0 ≤ h.1 j → σ.1 0 74 j = iI (h.2.1 j)) ∧ (0 ≤ h.1 j → ∀ i, i < 40 → σ.1 0 75 (40 * j + i) = iI (h.2.2.1 j i)) ∧ (∃ z, σ.1 0 74 j = iI z ∧ 0 ≤ z ∧ z ≤ 40) ∧ σ.1 0 76 j = iI (h.2.2.2.1 j) ∧ (h.2.2.2.1 j ≠ 0 → σ.1 0 77 j = iI (h.2.2.2.2.1 j)) ∧ (h.2.2.2.1 j = 2 → σ.1 0 78 j = iI (h.2.2.2.2.2 j))
def mAc (a : zXt) (σ : zM) : Prop := σ.1 0 60 32 = iI a.1 ∧ ∀ i, i < a.1 → σ.1 0 79 i = iI (a.2 i)
def RM (x : zXx) (σ : zM) : Prop := mS 61 x.1 σ ∧ mKe x σ ∧ mTp (xt x) σ ∧ mRo (xr x) σ ∧ mHo (xh x) σ ∧ mAc (xa x) σ
abbrev WC : Nat → Nat → Nat → Prop := fun g k i => (g = 1 ∧ k ≤ 22) ∨ (g = 3 ∧ k ≤ 22) ∨ (g = 4 ∧ 7 ≤ k ∧ k ≤ 14) ∨ (g = 0 ∧ (k = 13 ∨ k = 14 ∨ k = 22 ∨ (33 ≤ k ∧ k ≤ 37) ∨ (k = 19 ∧ 1 ≤ i) ∨ (k = 49 ∧ 1 ≤ i)))
abbrev WD : Nat → Nat → Nat → Prop := fun g k i => (g = 1 ∧ k ≤ 22) ∨ (g = 3 ∧ k ≤ 22) ∨ (g = 4 ∧ 7 ≤ k ∧ k ≤ 14) ∨ (g = 0 ∧ (k ≤ 22 ∨ (33 ≤ k ∧ k ≤ 37) ∨ (k = 49 ∧ 1 ≤ i)))
abbrev WM : Nat → Nat → Nat → Prop := fun g k i => g = 0 ∧ (k = 61 ∨ (63 ≤ k ∧ k ≤ 70) ∨ (k = 60 ∧ i ≠ 3 ∧ i ≠ 16 ∧ i ≠ 18 ∧ i ≠ 32))
theorem cA_c {g : Nat} {S : zS} {σ τ : zM} (h : cA g S σ) (e1 : ∀ k, k ≤ 21 → k ≠ 13 → k ≠ 14 → k ≠ 19 → τ.1 g k = σ.1 g k) (e2 : τ.1 g 19 0 = σ.1 g 19 0) : cA g S τ := by
  obtain ⟨h1, h2, h3, h4, h5, h6, h7⟩ := h
  exact ⟨cB_f h1 fun k _ _ => e1 k (by omega) (by omega) (by omega) (by omega), cK_f h2 (e1 1 (by decide) (by decide) (by decide) (by decide)), cW_f h3 (e1 1 (by decide) (by decide) (by decide) (by decide)), cP_f h4 fun k _ _ => e1 k (by omega) (by omega) (by omega) (by omega), cR_f h5 e2 fun k _ _ => e1 k (by omega) (by omega) (by omega) (by omega), cU_f h6 fun k _ _ => e1 k (by omega) (by omega) (by omega) (by omega), cZ_f h7 (by rw [e1 0 (by decide) (by decide) (by decide) (by decide)])⟩
theorem RC_o {x : zXx} {S : zS} {σ τ : zM} (h : RC x σ) (f : zFr WD σ τ) (hA : cA 0 S τ) : RC (S, x.2) τ := by
  obtain ⟨-, h2, h3, h4, h5, h6⟩ := h
  have e : ∀ g k, (g ≠ 1 ∨ 22 < k) → (g ≠ 3 ∨ 22 < k) → (g ≠ 4 ∨ k < 7 ∨ 14 < k) → (g ≠ 0 ∨ (22 < k ∧ (k < 33 ∨ 37 < k) ∧ k ≠ 49)) → τ.1 g k = σ.1 g k := fun g k a b c d => zFr_f f (fun i => by omega)
  refine ⟨hA, ⟨?_, fun q => ?_⟩, ⟨?_, fun i hi => ?_⟩, ⟨?_, fun k w hk hw => ?_⟩, fun j hj => ?_, ⟨?_, fun i hi => ?_⟩⟩
  · rw [e 0 30 (by omega) (by omega) (by omega) (by omega)]; exact h2.1
  · exact cA_c (h2.2 q) (fun k a b c d => e 2 k (by omega) (by omega) (by omega) (by omega)) (by rw [e 2 19 (by omega) (by omega) (by omega) (by omega)])
  · rw [e 0 31 (by omega) (by omega) (by omega) (by omega)]; exact h3.1
  · rw [e 0 32 (by omega) (by omega) (by omega) (by omega)]; exact h3.2 i hi
  · rw [e 0 38 (by omega) (by omega) (by omega) (by omega)]; exact h4.1
  · rw [e k 40 (by omega) (by omega) (by omega) (by omega)]; exact h4.2 k w hk hw
  · have := h5 j hj
    rw [e 0 42 (by omega) (by omega) (by omega) (by omega), e 0 43 (by omega) (by omega) (by omega) (by omega), f.2, e 0 46 (by omega) (by omega) (by omega) (by omega), e 0 47 (by omega) (by omega) (by omega) (by omega), e 0 48 (by omega) (by omega) (by omega) (by omega)]
    exact this
  · rw [f.1 0 49 0 (by omega)]; exact h6.1
  · rw [e 0 50 (by omega) (by omega) (by omega) (by omega)]; exact h6.2 i hi
theorem RC_s {x : zXx} {σ τ : zM} (h : RC x σ) (f : zFr WC σ τ) : RC x τ :=
  RC_o h (zFr_i f fun _ _ _ q => by omega) (cA_c h.1 (fun k a b c d => zFr_f f (fun i => by omega)) (f.1 _ _ _ (by omega)))
theorem RM_o {x : zXx} {S : zS} {σ τ : zM} (h : RM x σ) (f : zFr WM σ τ) (hS : mS 61 S τ) : RM (S, x.2) τ := by
  obtain ⟨-, h2, h3, h4, h5, h6⟩ := h
  have e : ∀ k, k ≠ 60 → k ≠ 61 → (k < 63 ∨ 70 < k) → τ.1 0 k = σ.1 0 k := fun k a b c => zFr_f f (fun i => by omega)
  refine ⟨hS, ⟨?_, fun q => ?_⟩, ⟨?_, fun i hi => ?_⟩, ⟨?_, fun k w hk hw => ?_⟩, fun j hj => ?_, ⟨?_, fun i hi => ?_⟩⟩
  · rw [f.1 0 60 3 (by omega)]; exact h2.1
  · exact mS_f (h2.2 q) (e 62 (by decide) (by decide) (by decide))
  · rw [f.1 0 60 18 (by omega)]; exact h3.1
  · rw [e 72 (by decide) (by decide) (by decide)]; exact h3.2 i hi
  · rw [f.1 0 60 16 (by omega)]; exact h4.1
  · rw [e 71 (by decide) (by decide) (by decide)]; exact h4.2 k w hk hw
  · rw [e 73 (by decide) (by decide) (by decide), e 74 (by decide) (by decide) (by decide), e 75 (by decide) (by decide) (by decide), e 76 (by decide) (by decide) (by decide), e 77 (by decide) (by decide) (by decide), e 78 (by decide) (by decide) (by decide)]
    exact h5 j hj
  · rw [f.1 0 60 32 (by omega)]; exact h6.1
  · rw [e 79 (by decide) (by decide) (by decide)]; exact h6.2 i hi
theorem RM_s {x : zXx} {σ τ : zM} (h : RM x σ) (f : zFr WM σ τ) (hS : mS 61 x.1 τ) : RM x τ := RM_o h f hS
def zCl1 (J : Nat) (as : List zV) (x x' : zXx) (v : Int32) : Prop := ∀ σ, RC x σ → ∃ w τ, zev 64 J (.inr (.inr (0, 30)) :: as) σ = some (v, w, τ) ∧ RC x' τ
def zMl1 (J : Nat) (as : List zV) (x x' : zXx) (v : Int32) : Prop := ∀ σ, RM x σ → ∃ w τ, zev 64 J (.inr (.inr (0, 60)) :: as) σ = some (v, w, τ) ∧ RM x' τ
def zCall (J J2 : Nat) (as : List zV) (x : zXx) : Prop := ∃ x' v, WX x' ∧ zCl1 J as x x' v ∧ zMl1 J2 as x x' v
theorem zCq {J J2 : Nat} {as : List zV} {x : zXx} (v : Int32) (w : WX x) (h1 : ∀ σ, RC x σ → ∃ τ, zev 64 J (.inr (.inr (0, 30)) :: as) σ = some (v, 0, τ) ∧ zFr WC σ τ) (h2 : ∀ σ, RM x σ → ∃ τ, zev 64 J2 (.inr (.inr (0, 60)) :: as) σ = some (v, 0, τ) ∧ zFr WM σ τ ∧ mS 61 x.1 τ) : zCall J J2 as x := by
  refine ⟨x, v, w, fun σ h => ?_, fun σ h => ?_⟩
  · obtain ⟨τ, a, b⟩ := h1 σ h
    exact ⟨0, τ, a, RC_s h b⟩
  · obtain ⟨τ, a, b, c⟩ := h2 σ h
    exact ⟨0, τ, a, RM_s h b c⟩
theorem zCs {J J2 : Nat} {as : List zV} {x : zXx} (S : zS) (v : Int32) (w : WX x) (ws : wA S) (wk : wK S) (h1 : ∀ σ, RC x σ → ∃ τ, zev 64 J (.inr (.inr (0, 30)) :: as) σ = some (v, 0, τ) ∧ zFr WD σ τ ∧ cA 0 S τ) (h2 : ∀ σ, RM x σ → ∃ τ, zev 64 J2 (.inr (.inr (0, 60)) :: as) σ = some (v, 0, τ) ∧ zFr WM σ τ ∧ mS 61 S τ) : zCall J J2 as x := by
  refine ⟨(S, x.2), v, ⟨ws, w.2.1, w.2.2.1, w.2.2.2.1, w.2.2.2.2.1, w.2.2.2.2.2.1, wk, w.2.2.2.2.2.2.2⟩, fun σ h => ?_, fun σ h => ?_⟩
  · obtain ⟨τ, a, b, c⟩ := h1 σ h
    exact ⟨0, τ, a, RC_o h b c⟩
  · obtain ⟨τ, a, b, c⟩ := h2 σ h
    exact ⟨0, τ, a, RM_o h b c⟩
theorem zFr_WC0 {σ τ : zM} (f : zFr (Ws 0) σ τ) : zFr WC σ τ := zFr_i f fun _ _ _ q => by omega
theorem zm166c {d : Nat} {S : zS} {σ : zM} (hS : mS 61 S σ) (wa : wA S) : ∃ τ, zev (d + 6) 166 [.inr (.inr (0, 60))] σ = some (0, 0, τ) ∧ zFr WM σ τ ∧ mS 61 S τ ∧ mR 65 S (aHold S) τ := by
  obtain ⟨τ, c1, c2, c3⟩ := zm166 (d := d) hS wa.1 wa.2.1 wa.2.2.2.2.1
  exact ⟨τ, c1, zFr_i c2 fun _ _ _ q => by omega, mS_g hS c2 (fun i => by omega), c3⟩
theorem zm170 {d : Nat} {S : zS} {σ : zM} (hS : mS 61 S σ) (wa : wA S) (hh : mR 65 S (aHold S) σ) : ∃ τ, zev (d + 7) 170 [.inr (.inr (0, 60))] σ = some (zcr (aCr S (aSp S)) ((S 0).toNat), 0, τ) ∧ zFr (Wk 0 66) σ τ := by
  obtain ⟨τ, c1, c2, c3⟩ := zm168 (d := d) hS wa.1 wa.2.1 wa.2.2.1
  rw [ez_170]
  simp only [c1, zbs]
  exact ⟨τ, zm170_8 (d := d + 2) (mS_g hS c2 (fun i => by omega)) wa.1 (mF_sp wa (mR_f hh (zFr_f c2 (fun i => by omega))) c3), c2⟩
theorem zm172 {d : Nat} {S : zS} {σ : zM} (hS : mS 61 S σ) (wa : wA S) : ∃ τ, zev (d + 7) 172 [.inr (.inr (0, 60))] σ = some (0, 0, τ) ∧ zFr WM σ τ ∧ mS 61 S τ ∧ mR 65 S (aHold S) τ ∧ mR 66 S (aBear S) τ := by
  obtain ⟨τ, c1, c2, c3, c4⟩ := zm166c (d := d) hS wa
  obtain ⟨τ1, b1, b2, b3⟩ := zm168 (d := d) c3 wa.1 wa.2.1 wa.2.2.1
  rw [ez_172]
  simp only [c1, b1, zbs]
  exact ⟨τ1, rfl, zFr_tt c2 (zFr_i b2 fun _ _ _ q => by omega), mS_g c3 b2 (fun i => by omega), mR_f c4 (zFr_f b2 (fun i => by omega)), b3⟩
theorem zx_95 {x : zXx} (w : WX x) : zCall 95 186 [] x := by
  refine zCq (zcr (aCr x.1 (aSp x.1)) ((x.1 0).toNat)) w (fun σ h => ?_) (fun σ h => ?_)
  · obtain ⟨τ, c1, c2, c3⟩ := zc27 (d := 58) h.1 w.1
    have hA := cA_s h.1 c2
    rw [ez_95]
    simp only [c1, zbs, zc29 (d := 60) hA.1 hA.2.1 w.1.1 c3 (aSp_r w.1)]
    exact ⟨τ, rfl, zFr_WC0 c2⟩
  · obtain ⟨τ, c1, c2, c3, c4⟩ := zm166c (d := 57) h.1 w.1
    obtain ⟨τ1, b1, b2⟩ := zm170 (d := 56) c3 w.1 c4
    rw [ez_186]
    simp only [c1, b1, zbs]
    exact ⟨τ1, rfl, zFr_tt c2 (zFr_i b2 fun _ _ _ q => by omega), mS_g c3 b2 (fun i => by omega)⟩
theorem zx_96 {x : zXx} (w : WX x) : zCall 96 188 [] x := by
  have hl := aLst_r (S := x.1) (f := aSp x.1) ((x.1 0).toNat)
  have b1 := w.1.1.2.1
  refine zCq (if aLst x.1 (aSp x.1) ((x.1 0).toNat) < 0 then -3 else iI (aLst x.1 (aSp x.1) ((x.1 0).toNat))) w (fun σ h => ?_) (fun σ h => ?_)
  · obtain ⟨τ, c1, c2, c3⟩ := zc27 (d := 58) h.1 w.1
    have hA := cA_s h.1 c2
    have hcz : zrn (cE (aLst x.1 (aSp x.1) ((x.1 0).toNat))) := by unfold cE; split <;> omega
    rw [ez_96]
    simp only [c1, zbs, zc31 (d := 60) hA.1 hA.2.1 w.1.1 c3 (aSp_r w.1), iI_n9 hcz]
    refine ⟨τ, ?_, zFr_WC0 c2⟩
    by_cases q : aLst x.1 (aSp x.1) ((x.1 0).toNat) < 0
    · rw [if_pos (show cE _ = -9 from if_pos q), if_pos q]
    · have hce : cE (aLst x.1 (aSp x.1) ((x.1 0).toNat)) = aLst x.1 (aSp x.1) ((x.1 0).toNat) := if_neg q
      rw [hce, if_neg (by omega), if_neg q]
  · obtain ⟨τ, c1, c2, c3, c4⟩ := zm166c (d := 57) h.1 w.1
    obtain ⟨τ1, b1, b2, b3⟩ := zm187 (d := 56) c3 w.1 c4
    rw [ez_188]
    simp only [c1, b1, zbs, iI_lt0 (show zrn (aLst x.1 (aSp x.1) ((x.1 0).toNat)) by omega)]
    refine ⟨τ1, ?_, zFr_tt c2 (zFr_i b2 fun _ _ _ q => by omega), mS_g c3 b2 (fun i => by omega)⟩
    by_cases q : aLst x.1 (aSp x.1) ((x.1 0).toNat) < 0
    · rw [if_pos q, if_pos q]
    · rw [if_neg q, if_neg q]
theorem zx_97 {x : zXx} (w : WX x) : zCall 97 191 [] x := by
  refine zCs (aFl 9 x.1).1 (iI (aFl 9 x.1).2) w (wA_fl 9 w.1) (wK_fl 9 w.1 w.2.2.2.2.2.2.1) (fun σ h => ?_) (fun σ h => ?_)
  · obtain ⟨τ, c1, c2, c3⟩ := zc33 (d := 57) w.1 h.1
    rw [ez_97]
    simp only [c1, zbs]
    exact ⟨τ, rfl, zFr_i c2 fun _ _ _ q => by omega, c3⟩
  · obtain ⟨τ, c1, c2, c3⟩ := zm190 (d := 55) h.1 w.1
    rw [ez_191]
    simp only [c1, zbs]
    exact ⟨τ, rfl, zFr_i c2 fun _ _ _ q => by omega, c3⟩
theorem zx_98 {x : zXx} (w : WX x) : zCall 98 192 [] x := by
  refine zCq (iI (aFl 9 x.1).2) w (fun σ h => ?_) (fun σ h => ?_)
  · obtain ⟨τ, c1, c2, c3⟩ := zc25 (d := 58) (g := 1) (by decide) w.1 h.1
    obtain ⟨τ1, b1, b2, b3⟩ := zc33 (d := 57) w.1 c3
    rw [ez_98]
    simp only [c1, b1, zbs]
    exact ⟨τ1, rfl, zFr_tt (zFr_i c2 fun _ _ _ q => by omega) (zFr_i b2 fun _ _ _ q => by omega)⟩
  · obtain ⟨τ, a1, a2, a3⟩ := zm153 (d := 62) h.1
    obtain ⟨τ1, b1, b2, b3⟩ := zm190 (d := 55) (mS_g h.1 a2 (fun i => by omega)) w.1
    obtain ⟨τ2, c1, c2, c3⟩ := zm154 (d := 62) (mS_f a3 (zFr_f b2 (fun i => by omega)) : mS 63 x.1 τ1)
    rw [ez_192]
    simp only [a1, b1, c1, zbs]
    exact ⟨τ2, rfl, zFr_tt (zFr_i a2 fun _ _ _ q => by omega) (zFr_tt (zFr_i b2 fun _ _ _ q => by omega) (zFr_i c2 fun _ _ _ q => by omega)), c3⟩
theorem zm149k {d : Nat} {z : Int} {l h : Nat} {σ : zM} (hz : zrn z) (hl : l ≤ 9999) (hh : h ≤ 9999) : zev (d + 1) 149 [.inr (.inl (Int32.toInt64 (iI z))), .inr (.inl (Int64.ofNat l)), .inr (.inl (Int64.ofNat h))] σ = some (zB (decide ((l : Int) ≤ z ∧ z ≤ h)), 0, σ) := by
  rw [zm149 hz, Int64.toInt_ofNat_of_lt (by omega), Int64.toInt_ofNat_of_lt (by omega)]
theorem zc143 {d : Nat} {z : Int} {σ : zM} (hz : zrn z) : zev (d + 1) 143 [.inl (iI z)] σ = some (zB (decide (0 ≤ z ∧ z ≤ 1)), 0, σ) := by
  rw [F143, zrg_B, t_iI hz]
theorem zx_99 {x : zXx} (w : WX x) (z : Int) (hz : zrn z) : zCall 99 194 [.inl (iI z)] x := by
  have wf := wA_fl 9 w.1
  have e1 : ∀ {d : Nat} {σ : zM}, zev (d + 1) 149 [.inr (.inl (Int32.toInt64 (iI z))), .inr (.inl 0), .inr (.inl 1)] σ = some (zB (decide (0 ≤ z ∧ z ≤ 1)), 0, σ) := fun {d σ} => zm149k (l := 0) (h := 1) hz (by decide) (by decide)
  refine zCq (if 0 ≤ z ∧ z ≤ 1 then iI (aStd (aFl 9 x.1).1 z (((aFl 9 x.1).1 2).toNat)) else -1) w (fun σ h => ?_) (fun σ h => ?_)
  · rw [ez_99]
    simp only [zc143 hz, zbs, zBi]
    by_cases q : 0 ≤ z ∧ z ≤ 1
    · rw [decide_eq_true q, if_pos q]
      obtain ⟨τ, c1, c2, c3⟩ := zc25 (d := 58) (g := 1) (by decide) w.1 h.1
      obtain ⟨τ1, b1, b2, b3⟩ := zc33 (d := 57) w.1 c3
      simp only [cond_true, c1, b1, zbs, zc38 (d := 62) b3.2.2.2.1 wf.1 wf.2.2.1 q]
      exact ⟨τ1, rfl, zFr_tt (zFr_i c2 fun _ _ _ q => by omega) (zFr_i b2 fun _ _ _ q => by omega)⟩
    · rw [decide_eq_false q, if_neg q]
      exact ⟨σ, rfl, zFr_r σ⟩
  · rw [ez_194]
    simp only [e1, zbs, zBi]
    by_cases q : 0 ≤ z ∧ z ≤ 1
    · rw [decide_eq_true q, if_pos q]
      obtain ⟨n, rfl⟩ := zint q.1
      obtain ⟨τ, c1, c2, c3, c4⟩ := zm193 (d := 54) h.1 w.1
      simp only [cond_true, c1, zbs, zgd_t (iI_ink (z := n) (k := n) rfl (show n < 2 by omega) (by decide)), iI_Nn (show n ≤ 2147483647 by omega), c4 n (by omega)]
      exact ⟨τ, rfl, zFr_i c2 fun _ _ _ q => by omega, c3⟩
    · rw [decide_eq_false q, if_neg q]
      exact ⟨σ, rfl, zFr_r σ, h.1⟩
theorem zx_100 {x : zXx} (w : WX x) : zCall 100 195 [] x := by
  have wf := wA_fl 9 w.1
  have p1 := wf.2.2.1.2.1
  have s0 := aStd_b (x := 0) wf.2.2.1 (((aFl 9 x.1).1 2).toNat) (Nat.le_refl _)
  have s1 := aStd_b (x := 1) wf.2.2.1 (((aFl 9 x.1).1 2).toNat) (Nat.le_refl _)
  generalize hS0 : aStd (aFl 9 x.1).1 0 (((aFl 9 x.1).1 2).toNat) = A at s0
  generalize hS1 : aStd (aFl 9 x.1).1 1 (((aFl 9 x.1).1 2).toNat) = B at s1
  refine zCq (if B < A then 0 else if A < B then 1 else 2) w (fun σ h => ?_) (fun σ h => ?_)
  · obtain ⟨τ, c1, c2, c3⟩ := zc25 (d := 58) (g := 1) (by decide) w.1 h.1
    obtain ⟨τ1, b1, b2, b3⟩ := zc33 (d := 57) w.1 c3
    have e0 : zev 63 38 [.inr (.inr (1, 15)), .inl 0] τ1 = some (iI A, 0, τ1) := by rw [← hS0]; exact zc38 (d := 62) (x := 0) b3.2.2.2.1 wf.1 wf.2.2.1 (by decide)
    have e1 : zev 63 38 [.inr (.inr (1, 15)), .inl 1] τ1 = some (iI B, 0, τ1) := by rw [← hS1]; exact zc38 (d := 62) (x := 1) b3.2.2.2.1 wf.1 wf.2.2.1 (by decide)
    rw [ez_100]
    simp only [c1, b1, e0, e1, zbs, iI_sub, iI_0 (show zrn (A - B) by omega), iI_0lt (show zrn (A - B) by omega)]
    refine ⟨τ1, ?_, zFr_tt (zFr_i c2 fun _ _ _ q => by omega) (zFr_i b2 fun _ _ _ q => by omega)⟩
    by_cases q1 : B < A
    · rw [if_neg (by omega), if_pos (by omega), if_pos q1]
    · by_cases q2 : A < B
      · rw [if_neg (by omega), if_neg (by omega), if_neg q1, if_pos q2]
      · rw [if_pos (by omega), if_neg q1, if_neg q2]
  · obtain ⟨τ, c1, c2, c3, c4⟩ := zm193 (d := 54) h.1 w.1
    have e0 := c4 0 (by decide)
    have e1 := c4 1 (by decide)
    rw [show (((0 : Nat) : Int)) = 0 from rfl, hS0] at e0
    rw [show (((1 : Nat) : Int)) = 1 from rfl, hS1] at e1
    rw [ez_195]
    simp only [c1, zbs, e0, e1, iI_lt (show zrn A by omega) (show zrn B by omega), iI_lt (show zrn B by omega) (show zrn A by omega)]
    refine ⟨τ, ?_, zFr_i c2 fun _ _ _ q => by omega, c3⟩
    by_cases q1 : B < A
    · rw [if_pos q1, if_pos q1]
    · by_cases q2 : A < B
      · rw [if_neg q1, if_neg q1, if_pos q2, if_pos q2]
      · rw [if_neg q1, if_neg q1, if_neg q2, if_neg q2]
theorem zx_101 {x : zXx} (w : WX x) (z : Int) (hz : zrn z) : zCall 101 197 [.inl (iI z)] x := by
  have b0 := w.1.1.1
  have b1 := w.1.1.2.1
  refine zCq (if 0 ≤ z ∧ z < x.1 0 then (if aBrk x.1 z.toNat = true then -4 else iI (aRoom x.1 (aSp x.1) z.toNat)) else -1) w (fun σ h => ?_) (fun σ h => ?_)
  · rw [ez_101]
    simp only [zc13 h.1.1.1 ⟨b0, b1⟩ hz, zbs, zBi, zc14 (d := 61) h.1.1 h.1.2.1 w.1.1 hz]
    by_cases q : 0 ≤ z ∧ z < x.1 0
    · rw [decide_eq_true q, if_pos q]
      obtain ⟨n, rfl⟩ := zint q.1
      simp only [cond_true, Bool.true_and, Int.toNat_natCast]
      cases hk : aBrk x.1 n
      · obtain ⟨τ, c1, c2, c3⟩ := zc27 (d := 58) h.1 w.1
        have hA := cA_s h.1 c2
        simp only [Bool.not_false, cond_true, c1, zbs, zc32 (d := 60) hA.1 w.1.1 c3 (aSp_r w.1) (show n < (x.1 0).toNat by omega)]
        exact ⟨τ, rfl, zFr_WC0 c2⟩
      · exact ⟨σ, rfl, zFr_r σ⟩
    · rw [decide_eq_false q, if_neg q]
      exact ⟨σ, rfl, zFr_r σ⟩
  · rw [ez_197]
    simp only [zm150 (d := 61) h.1 ⟨b0, b1⟩ hz, zbs, zBi]
    by_cases q : 0 ≤ z ∧ z < x.1 0
    · rw [decide_eq_true q, if_pos q]
      obtain ⟨n, rfl⟩ := zint q.1
      have w2 := w.1.1.2.2 n (by omega)
      simp only [cond_true, zm157 (d := 60) h.1 (show n < 9 by omega) (show 0 ≤ x.1 (11 + 5 * n) ∧ x.1 (11 + 5 * n) ≤ 1 by omega), zbs, zBi, Int.toNat_natCast]
      cases hk : aBrk x.1 n
      · obtain ⟨τ, c1, c2, c3, c4, c5⟩ := zm172 (d := 56) h.1 w.1
        simp only [cond_false, c1, zbs, zm196 (d := 59) c3 w.1.1 (mF_sp w.1 c4 c5) (aSp_r w.1) (show n < (x.1 0).toNat by omega)]
        exact ⟨τ, rfl, c2, c3⟩
      · exact ⟨σ, rfl, zFr_r σ, h.1⟩
    · rw [decide_eq_false q, if_neg q]
      exact ⟨σ, rfl, zFr_r σ, h.1⟩
theorem wB_up {S : zS} {b w : Nat} {v : Int} (h : wB S) (hb : b < (S 0).toNat) (hv : (w = 0 ∧ 1 ≤ v ∧ v ≤ 5) ∨ (w = 2 ∧ 1 ≤ v ∧ v ≤ 9) ∨ (w = 3 ∧ 1 ≤ v ∧ v ≤ 999)) : wB (zup S (7 + 5 * b + w) v) := by
  obtain ⟨w0, w1, w2⟩ := h
  have e0 : zup S (7 + 5 * b + w) v 0 = S 0 := zup_n (by omega)
  refine ⟨by omega, by omega, fun c hc => ?_⟩
  have hc' : c < (S 0).toNat := by rw [e0] at hc; exact hc
  have w3 := w2 c hc'
  unfold zup
  by_cases q : c = b
  · subst q
    rcases hv with ⟨rfl, h1, h2⟩ | ⟨rfl, h1, h2⟩ | ⟨rfl, h1, h2⟩
    · rw [if_pos (by omega), if_neg (by omega), if_neg (by omega), if_neg (by omega), if_neg (by omega)]; omega
    · rw [if_neg (by omega), if_neg (by omega), if_pos (by omega), if_neg (by omega), if_neg (by omega)]; omega
    · rw [if_neg (by omega), if_neg (by omega), if_neg (by omega), if_pos (by omega), if_neg (by omega)]; omega
  · rw [if_neg (by omega), if_neg (by omega), if_neg (by omega), if_neg (by omega), if_neg (by omega)]; exact w3
theorem wA_up {S : zS} {b w : Nat} {v : Int} (h : wA S) (hb : b < (S 0).toNat) (hv : (w = 0 ∧ 1 ≤ v ∧ v ≤ 5) ∨ (w = 2 ∧ 1 ≤ v ∧ v ≤ 9) ∨ (w = 3 ∧ 1 ≤ v ∧ v ≤ 999)) : wA (zup S (7 + 5 * b + w) v) := by
  obtain ⟨wb, ww, wp, wr, wu, wz⟩ := h
  have b1 := wb.2.1
  have p1 := wp.2.1
  have e : ∀ i, (i < 7 ∨ 52 ≤ i) → zup S (7 + 5 * b + w) v i = S i := fun i hi => zup_n (by omega)
  refine ⟨wB_up wb hb hv, wW_c ww (e 4 (by omega)) (e 5 (by omega)), wP_c wp (e 2 (by omega)) (e 0 (by omega)) (fun i _ _ _ => e i (by omega)) (fun q hq => ?_), wR_c wr (e 3 (by omega)) (by rw [e 0 (by omega)]; exact Int.le_refl _) (fun i hi _ => e i (by omega)), wU_c wu (e 1 (by omega)) (fun i hi => e i (by omega)), by rw [e 6 (by omega)]; exact wz⟩
  have := wp.2.2 q hq
  rw [e _ (by omega)]
  omega
theorem cB_up {g b w : Nat} {S : zS} {σ : zM} {v : Int} (h : cB g S σ) (wb : wB S) (hb : b < (S 0).toNat) (hw : w = 0 ∨ w = 2 ∨ w = 3) : cB g (zup S (7 + 5 * b + w) v) (zwI σ g (2 + w) b (iI v)) := by
  have b1 := wb.2.1
  have e0 : zup S (7 + 5 * b + w) v 0 = S 0 := zup_n (by omega)
  refine ⟨by rw [zfe (by omega), e0]; exact h.1, fun c hc => ?_⟩
  have hc' : c < (S 0).toNat := by rw [e0] at hc; exact hc
  have h2 := h.2 c hc'
  have ep : aPar (zup S (7 + 5 * b + w) v) c = aPar S c := by unfold aPar; rw [zup_n (by omega)]
  rw [ep, zfe (g' := g) (k' := 3) (by omega), zfe (g' := g) (k' := 6) (by omega)]
  have ha : ∀ u, aAb (zup S (7 + 5 * b + w) v) c u = aAb S c u := fun u => aAb_c (fun b hb => zup_n (by omega)) wb hc'
  refine ⟨?_, h2.2.1, ?_, ?_, fun u hu => by rw [ha]; exact h2.2.2.2.2 u hu⟩
  · by_cases q : c = b ∧ w = 0
    · obtain ⟨rfl, rfl⟩ := q
      rw [zfs, show 7 + 5 * c = 7 + 5 * c + 0 by omega, zup_s]
    · rw [zfe (by omega), zup_n (by omega)]; exact h2.1
  · by_cases q : c = b ∧ w = 2
    · obtain ⟨rfl, rfl⟩ := q
      rw [zfs, show 9 + 5 * c = 7 + 5 * c + 2 by omega, zup_s]
    · rw [zfe (by omega), zup_n (by omega)]; exact h2.2.2.1
  · by_cases q : c = b ∧ w = 3
    · obtain ⟨rfl, rfl⟩ := q
      rw [zfs, show 10 + 5 * c = 7 + 5 * c + 3 by omega, zup_s]
    · rw [zfe (by omega), zup_n (by omega)]; exact h2.2.2.2.1
theorem cA_up {g b w : Nat} {S : zS} {σ : zM} {v : Int} (h : cA g S σ) (wa : wA S) (hb : b < (S 0).toNat) (hw : w = 0 ∨ w = 2 ∨ w = 3) : cA g (zup S (7 + 5 * b + w) v) (zwI σ g (2 + w) b (iI v)) := by
  obtain ⟨h1, h2, h3, h4, h5, h6, h7⟩ := h
  obtain ⟨wb, ww, wp, wr, wu, wz⟩ := wa
  have b1 := wb.2.1
  have e : ∀ i, (i < 7 ∨ 52 ≤ i) → zup S (7 + 5 * b + w) v i = S i := fun i hi => zup_n (by omega)
  refine ⟨cB_up h1 wb hb hw, ?_, ?_, ?_, ?_, ?_, ?_⟩
  · exact cK_f (cK_c h2 wb (e 0 (by omega)) fun b hb => zup_n (by omega)) (zfn (by omega))
  · exact cW_f (cW_c h3 (e 4 (by omega)) (e 5 (by omega))) (zfn (by omega))
  · exact cP_f (cP_c h4 (e 2 (by omega)) (fun i _ _ => e i (by omega)) wp) fun k _ _ => zfn (by omega)
  · exact cR_f (cR_c h5 (e 3 (by omega)) (fun i _ _ => e i (by omega)) wr) (zfe (by omega)) fun k _ _ => zfn (by omega)
  · exact cU_f (cU_c h6 (e 1 (by omega)) fun i _ => e i (by omega)) fun k _ _ => zfn (by omega)
  · unfold cZ at h7 ⊢
    rw [zfe (by omega), e 6 (by omega)]; exact h7
theorem wA_wt {S : zS} {i : Nat} {v : Int} (h : wA S) (hi : i = 4 ∨ i = 5) (hv : 0 ≤ v ∧ v ≤ 9) : wA (zup S i v) := by
  obtain ⟨wb, ww, wp, wr, wu, wz⟩ := h
  have e : ∀ j, j ≠ 4 → j ≠ 5 → zup S i v j = S j := fun j a b => zup_n (by omega)
  refine ⟨wB_c wb (e 0 (by omega) (by omega)) (fun i _ _ _ => e i (by omega) (by omega)) (fun b hb => ?_), ?_, wP_c wp (e 2 (by omega) (by omega)) (e 0 (by omega) (by omega)) (fun i _ _ _ => e i (by omega) (by omega)) (fun q hq => ?_), wR_c wr (e 3 (by omega) (by omega)) (by rw [e 0 (by omega) (by omega)]; exact Int.le_refl _) (fun i hi _ => e i (by omega) (by omega)), wU_c wu (e 1 (by omega) (by omega)) (fun i hi => e i (by omega) (by omega)), by rw [e 6 (by omega) (by omega)]; exact wz⟩
  · have := wb.2.2 b hb
    rw [e _ (by omega) (by omega)]; omega
  · obtain ⟨a1, a2, a3, a4⟩ := ww
    unfold wW zup
    rcases hi with rfl | rfl
    · rw [if_pos rfl, if_neg (by omega)]; omega
    · rw [if_neg (by omega), if_pos rfl]; omega
  · have := wp.2.2 q hq
    rw [e _ (by omega) (by omega)]; omega
theorem cA_wt {g i : Nat} {S : zS} {σ : zM} {v : Int} (h : cA g S σ) (wa : wA S) (hi : i = 4 ∨ i = 5) : cA g (zup S i v) (zwI σ g 1 (i + 3) (iI v)) := by
  obtain ⟨h1, h2, h3, h4, h5, h6, h7⟩ := h
  obtain ⟨wb, ww, wp, wr, wu, wz⟩ := wa
  have e : ∀ j, j ≠ 4 → j ≠ 5 → zup S i v j = S j := fun j a b => zup_n (by omega)
  refine ⟨?_, ?_, ?_, ?_, ?_, ?_, ?_⟩
  · exact cB_f' (cB_c h1 wb (e 0 (by omega) (by omega)) fun i _ _ _ => e i (by omega) (by omega)) (zfe (by omega)) fun k _ _ => zfn (by omega)
  · exact cK_f' (cK_c h2 wb (e 0 (by omega) (by omega)) fun b _ => e _ (by omega) (by omega)) (zfe (by omega))
  · obtain ⟨a1, a2⟩ := h3
    unfold cW zup
    rcases hi with rfl | rfl
    · rw [if_pos rfl, if_neg (by omega), zfs, zfe (by omega)]; exact ⟨rfl, a2⟩
    · rw [if_neg (by omega), if_pos rfl, zfs, zfe (by omega)]; exact ⟨a1, rfl⟩
  · exact cP_f (cP_c h4 (e 2 (by omega) (by omega)) (fun i _ _ => e i (by omega) (by omega)) wp) fun k _ _ => zfn (by omega)
  · exact cR_f (cR_c h5 (e 3 (by omega) (by omega)) (fun i _ _ => e i (by omega) (by omega)) wr) (zfe (by omega)) fun k _ _ => zfn (by omega)
  · exact cU_f (cU_c h6 (e 1 (by omega) (by omega)) fun i _ => e i (by omega) (by omega)) fun k _ _ => zfn (by omega)
  · unfold cZ at h7 ⊢
    rw [zfe (by omega), e 6 (by omega) (by omega)]; exact h7
def aCk (T : zS) : Bool := !decide (zcr (aCr T (aSp T)) ((T 0).toNat) = 0)
theorem zup_up {S : zS} {i : Nat} {v v' : Int} : zup (zup S i v) i v' = zup S i v' := funext fun j => by
  unfold zup
  split <;> rfl
theorem zup_id {S : zS} {i : Nat} {v : Int} : zup (zup S i v) i (S i) = S := by rw [zup_up, zup_same rfl]
theorem mS_up {S : zS} {σ : zM} {i : Nat} {v : Int} (h : mS 61 S σ) : mS 61 (zup S i v) (zwI σ 0 61 i (iI v)) := mS_w h
theorem zCk {T : zS} {x y : zR} : (if zcr (aCr T (aSp T)) ((T 0).toNat) = 0 then x else y) = bif aCk T then y else x := by
  unfold aCk
  by_cases q : zcr (aCr T (aSp T)) ((T 0).toNat) = 0
  · rw [if_pos q, decide_eq_true q]; rfl
  · rw [if_neg q, decide_eq_false q]; rfl
theorem zm171 {d : Nat} {S : zS} {σ : zM} (hS : mS 61 S σ) (wa : wA S) (hh : mR 65 S (aHold S) σ) : ∃ τ, zev (d + 8) 171 [.inr (.inr (0, 60))] σ = some (zB (!aCk S), 0, τ) ∧ zFr (Wk 0 66) σ τ := by
  obtain ⟨τ, c1, c2⟩ := zm170 (d := d) hS wa hh
  rw [ez_171]
  simp only [c1, zbs, zCk]
  refine ⟨τ, ?_, c2⟩
  cases aCk S
  · exact zgd_t rfl
  · exact zgd_t rfl
theorem zc27k {d g : Nat} {S : zS} {σ : zM} (hA : cA g S σ) (wa : wA S) : ∃ τ, zev (d + 5) 27 [.inr (.inr (g, 0))] σ = some (0, 0, τ) ∧ zFr (Ws g) σ τ ∧ cA g S τ ∧ cS g S (aSp S) τ ∧ zev (d + 5) 29 [.inr (.inr (g, 0))] τ = some (zcr (aCr S (aSp S)) ((S 0).toNat), 0, τ) := by
  obtain ⟨τ, c1, c2, c3⟩ := zc27 (d := d) hA wa
  have hA' := cA_s hA c2
  exact ⟨τ, c1, c2, hA', c3, zc29 (d := d + 2) hA'.1 hA'.2.1 wa.1 c3 (aSp_r wa)⟩
def aLe (p : Nat → Bool) : Nat → Nat → Int
  | 0, _ => -3
  | n + 1, v => bif p v then (v : Int) else aLe p n (v + 1)
theorem zc106 {S : zS} (wa : wA S) : ∀ (n k : Nat) (T : zS) (σ : zM), k + n = 10 → (∀ v, zup T 4 v = zup S 4 v) → wA T → cA 1 T σ → ∃ τ, zrun (zev 63) zT_106 13 [some (.inr (.inr (0, 30))), some (.inl (iI k))] [] σ = some (iI (aLe (fun v => !aCk (zup S 4 v)) n k), 0, τ) ∧ zFr (WG 1) σ τ
  | 0, k, T, σ, hk, hT, wt, hA => by
    rw [ez_106_13, if_pos (by show iI 9 < iI k; rw [iI_lt (by omega) (by omega)]; omega)]
    exact ⟨σ, rfl, zFr_r σ⟩
  | n + 1, k, T, σ, hk, hT, wt, hA => by
    have h2 := cA_wt (i := 4) (v := k) hA wt (Or.inl rfl)
    rw [hT] at h2
    have w2 := wA_wt (i := 4) (v := k) wa (Or.inl rfl) (by omega)
    obtain ⟨τ, c1, c2, c3, c4, c5⟩ := zc27k (d := 58) h2 w2
    have e : aLe (fun v => !aCk (zup S 4 v)) (n + 1) k = bif !aCk (zup S 4 k) then (k : Int) else aLe (fun v => !aCk (zup S 4 v)) n (k + 1) := rfl
    have f : zFr (WG 1) σ τ := zFr_tt (zFr_w ⟨rfl, by omega⟩) (zFr_i c2 fun _ _ _ q => ⟨q.1, by omega⟩)
    rw [ez_106_13, if_neg (by show ¬ iI 9 < iI k; rw [iI_lt (by omega) (by omega)]; omega)]
    simp only [c1, c5, zbs, zCk, hki1, e]
    cases aCk (zup S 4 k)
    · exact ⟨τ, rfl, f⟩
    · obtain ⟨τ2, g1, g2⟩ := zc106 wa n (k + 1) (zup S 4 k) τ (by omega) (fun v => zup_up) w2 c3
      exact ⟨τ2, g1, zFr_tt f g2⟩
theorem zc109 {S : zS} (wa : wA S) : ∀ (n k : Nat) (T : zS) (σ : zM), k + n = 10 → (∀ v, zup T 5 v = zup S 5 v) → wA T → cA 1 T σ → ∃ τ, zrun (zev 62) zT_109 15 [some (.inr (.inr (0, 30))), some (.inl (zcr (fun v => aCk (zup S 5 v)) k)), some (.inl (iI k))] [] σ = some (zcr (fun v => aCk (zup S 5 v)) 10, 0, τ) ∧ zFr (WG 1) σ τ
  | 0, k, T, σ, hk, hT, wt, hA => by
    have ek : k = 10 := by omega
    subst ek
    rw [ez_109_15, if_pos (by decide)]
    exact ⟨σ, rfl, zFr_r σ⟩
  | n + 1, k, T, σ, hk, hT, wt, hA => by
    have h2 := cA_wt (i := 5) (v := k) hA wt (Or.inr rfl)
    rw [hT] at h2
    have w2 := wA_wt (i := 5) (v := k) wa (Or.inr rfl) (by omega)
    obtain ⟨τ, c1, c2, c3, c4, c5⟩ := zc27k (d := 57) h2 w2
    have e : zcr (fun v => aCk (zup S 5 v)) (k + 1) = bif aCk (zup S 5 k) then zcr (fun v => aCk (zup S 5 v)) k ||| (1 <<< (iI k &&& 31)) else zcr (fun v => aCk (zup S 5 v)) k := rfl
    have f : zFr (WG 1) σ τ := zFr_tt (zFr_w ⟨rfl, by omega⟩) (zFr_i c2 fun _ _ _ q => ⟨q.1, by omega⟩)
    obtain ⟨τ2, g1, g2⟩ := zc109 wa n (k + 1) (zup S 5 k) τ (by omega) (fun v => zup_up) w2 c3
    rw [ez_109_15, if_neg (by show ¬ iI 9 < iI k; rw [iI_lt (by omega) (by omega)]; omega)]
    simp only [c1, c5, zbs, zCk, hki1]
    rw [e] at g1
    cases hx : aCk (zup S 5 k)
    · rw [hx, cond_false] at g1
      exact ⟨τ2, g1, zFr_tt f g2⟩
    · rw [hx, cond_true] at g1
      exact ⟨τ2, g1, zFr_tt f g2⟩
theorem zc105 {p : Nat → Bool} {σ : zM} : ∀ (n k : Nat) (d0 : Option zV), k + n = 10 → zrun (zev 63) zT_105 7 [d0, some (.inl (zcr p 10)), some (.inl (iI k))] [] σ = some (iI (aLe p n k), 0, σ)
  | 0, k, d0, hk => by
    rw [ez_105_7, if_pos (by show iI 9 < iI k; rw [iI_lt (by omega) (by omega)]; omega)]
    rfl
  | n + 1, k, d0, hk => by
    have e : aLe p (n + 1) k = bif p k then (k : Int) else aLe p n (k + 1) := rfl
    rw [ez_105_7, if_neg (by show ¬ iI 9 < iI k; rw [iI_lt (by omega) (by omega)]; omega), zc145 (d := 62) (show k < 32 by omega), zcr_b 10 (by decide) k (by omega), decide_eq_true (show k < 10 by omega), Bool.true_and, e]
    simp only [zbs, zBi, hki1]
    cases p k
    · exact zc105 n (k + 1) none (by omega)
    · rfl
theorem zm201 {S : zS} (wa : wA S) (w : Nat) (c : Bool) (hw : w ≤ 1) : ∀ (n k : Nat) (T : zS) (σ : zM), k + n = 10 → (∀ v, zup T (4 + w) v = zup S (4 + w) v) → mS 61 T σ → ∃ τ, zrun (zev 62) zT_201 16 [some (.inr (.inr (0, 60))), some (.inl (iI w)), some (.inl (zB c)), some (.inl (iI (S (4 + w)))), some (.inl (iI (-3))), some (.inl (iI k))] [] σ = some (iI (aLe (fun v => aCk (zup S (4 + w) v) != c) n k), 0, τ) ∧ zFr WM σ τ ∧ mS 61 S τ := by
  have i0 : (4 : Int32) + iI w = iI ((4 + w : Nat) : Int) := by
    show iI 4 + iI w = _
    rw [iI_add]; congr 1 <;> omega
  have g4 : zgd (zin (iI ((4 + w : Nat) : Int)) 320) = fun x => x := funext fun x => zgd_t (iI_ink (k := 4 + w) rfl (by omega) (by decide))
  have gN : Int32.toNatClampNeg (iI ((4 + w : Nat) : Int)) = 4 + w := iI_Nn (by omega)
  intro n
  induction n with
  | zero =>
    intro k T σ hk hT hS
    have hS2 := mS_up (i := 4 + w) (v := S (4 + w)) hS
    rw [hT, zup_same rfl] at hS2
    rw [ez_201_16, if_neg (by show ¬ iI k < iI 10; rw [iI_lt (by omega) (by omega)]; omega), i0, g4, gN]
    exact ⟨_, rfl, zFr_w (by omega), hS2⟩
  | succ n ih =>
    intro k T σ hk hT hS
    have hS2 := mS_up (i := 4 + w) (v := k) hS
    rw [hT] at hS2
    have w2 := wA_wt (i := 4 + w) (v := k) wa (by omega) (by omega)
    obtain ⟨τ, c1, c2, c3, c4⟩ := zm166c (d := 56) hS2 w2
    obtain ⟨τ1, b1, b2⟩ := zm171 (d := 54) c3 w2 c4
    have hS3 := mS_g c3 b2 (fun i => by omega)
    have f : zFr WM σ τ1 := zFr_tt (zFr_tt (zFr_w (by omega)) c2) (zFr_i b2 fun _ _ _ q => by omega)
    have e : aLe (fun v => aCk (zup S (4 + w) v) != c) (n + 1) k = bif (aCk (zup S (4 + w) k) != c) then (k : Int) else aLe (fun v => aCk (zup S (4 + w) v) != c) n (k + 1) := rfl
    rw [ez_201_16, if_pos (by show iI k < iI 10; rw [iI_lt (by omega) (by omega)]; omega), if_pos (by decide), i0, g4, gN]
    simp only [c1, b1, zbs, hki1]
    have hx : (zB (!aCk (zup S (4 + w) k)) = zB c) = ((aCk (zup S (4 + w) k) != c) = true) := by cases aCk (zup S (4 + w) k) <;> cases c <;> decide
    simp only [hx]
    cases hq : (aCk (zup S (4 + w) k) != c)
    · rw [hq, cond_false] at e
      rw [if_neg (by decide), e]
      obtain ⟨τ2, g1, g2, g3⟩ := ih (k + 1) (zup S (4 + w) k) τ1 (by omega) (fun v => zup_up) hS3
      exact ⟨τ2, g1, zFr_tt f g2, g3⟩
    · rw [hq, cond_true] at e
      rw [if_pos rfl, e, ez_201_16]
      have hS4 := mS_up (i := 4 + w) (v := S (4 + w)) hS3
      rw [zup_id] at hS4
      refine ⟨_, ?_, zFr_tt f (zFr_w (by omega)), hS4⟩
      rw [if_neg (show ¬ iI k < 0 by rw [iI_lt0 (by omega)]; omega), i0, g4, gN]
      split <;> rfl
theorem zx_105 {x : zXx} (w : WX x) : zCall 105 202 [] x := by
  refine zCq (iI (aLe (fun v => aCk (zup x.1 5 v)) 10 0)) w (fun σ h => ?_) (fun σ h => ?_)
  · obtain ⟨τ, c1, c2, c3⟩ := zc25 (d := 57) (g := 1) (by decide) w.1 h.1
    obtain ⟨τ1, b1, b2⟩ := zc109 w.1 10 0 x.1 τ rfl (fun v => rfl) w.1 c3
    have b1 : zrun (zev 62) zT_109 15 [some (.inr (.inr (0, 30))), some (.inl 0), some (.inl 0)] [] τ = _ := b1
    rw [ez_105]
    have e : zev 63 109 [.inr (.inr (0, 30))] σ = some (zcr (fun v => aCk (zup x.1 5 v)) 10, 0, τ1) := by
      rw [ez_109]
      simp only [c1, zbs]
      exact b1
    simp only [e, zbs]
    exact ⟨τ1, zc105 10 0 _ rfl, zFr_tt (zFr_i c2 fun _ _ _ q => by omega) (zFr_i b2 fun _ _ _ q => by omega)⟩
  · obtain ⟨τ, c1, c2, c3⟩ := zm201 w.1 1 false (by decide) 10 0 x.1 σ rfl (fun v => rfl) h.1
    have e0 : aLe (fun v => aCk (zup x.1 (4 + 1) v) != false) 10 0 = aLe (fun v => aCk (zup x.1 5 v)) 10 0 := by
      congr 1
      funext v
      exact Bool.bne_false _
    rw [e0] at c1
    have e : zev 63 201 [.inr (.inr (0, 60)), .inl 1, .inl 0] σ = some (iI (aLe (fun v => aCk (zup x.1 5 v)) 10 0), 0, τ) := by
      rw [ez_201]
      show zgd (zin 5 320) (zrun (zev 62) zT_201 16 [some (.inr (.inr (0, 60))), some (.inl 1), some (.inl 0), some (.inl (σ.1 0 61 5)), some (.inl (-3)), some (.inl 0)] [] σ) = _
      rw [zgd_t (by decide), h.1 5 (by decide)]
      exact c1
    rw [ez_202]
    simp only [e, zbs]
    exact ⟨τ, rfl, c2, c3⟩
theorem zx_106 {x : zXx} (w : WX x) : zCall 106 203 [] x := by
  refine zCq (iI (aLe (fun v => !aCk (zup x.1 4 v)) 10 0)) w (fun σ h => ?_) (fun σ h => ?_)
  · obtain ⟨τ, c1, c2, c3⟩ := zc25 (d := 58) (g := 1) (by decide) w.1 h.1
    obtain ⟨τ1, b1, b2⟩ := zc106 w.1 10 0 x.1 τ rfl (fun v => rfl) w.1 c3
    have b1 : zrun (zev 63) zT_106 13 [some (.inr (.inr (0, 30))), some (.inl 0)] [] τ = _ := b1
    rw [ez_106]
    simp only [c1, zbs]
    exact ⟨τ1, b1, zFr_tt (zFr_i c2 fun _ _ _ q => by omega) (zFr_i b2 fun _ _ _ q => by omega)⟩
  · obtain ⟨τ, c1, c2, c3⟩ := zm201 w.1 0 true (by decide) 10 0 x.1 σ rfl (fun v => rfl) h.1
    have e0 : aLe (fun v => aCk (zup x.1 (4 + 0) v) != true) 10 0 = aLe (fun v => !aCk (zup x.1 4 v)) 10 0 := by
      congr 1
      funext v
      exact Bool.bne_true _
    rw [e0] at c1
    have e : zev 63 201 [.inr (.inr (0, 60)), .inl 0, .inl 1] σ = some (iI (aLe (fun v => !aCk (zup x.1 4 v)) 10 0), 0, τ) := by
      rw [ez_201]
      show zgd (zin 4 320) (zrun (zev 62) zT_201 16 [some (.inr (.inr (0, 60))), some (.inl 0), some (.inl 1), some (.inl (σ.1 0 61 4)), some (.inl (-3)), some (.inl 0)] [] σ) = _
      rw [zgd_t (by decide), h.1 4 (by decide)]
      exact c1
    rw [ez_203]
    simp only [e, zbs]
    exact ⟨τ, rfl, c2, c3⟩
theorem aRm_c {S T : zS} {f : Nat → Int} {b : Nat} (h : ∀ u, u < 9 → aAb T b u = aAb S b u) : ∀ {n : Nat}, n ≤ 9 → aRm T f b n = aRm S f b n
  | 0, _ => rfl
  | n + 1, hn => by
    show (bif aAb T b n then (if f n < aRm T f b n then f n else aRm T f b n) else aRm T f b n) = (bif aAb S b n then (if f n < aRm S f b n then f n else aRm S f b n) else aRm S f b n)
    rw [h n (by omega), aRm_c h (by omega)]
theorem aRoom_c {S T : zS} {f : Nat → Int} {b : Nat} (w : wB S) (hb : b < (S 0).toNat) (h0 : T 0 = S 0) (h : ∀ b, b < 9 → T (8 + 5 * b) = S (8 + 5 * b)) : aRoom T f b = aRoom S f b := by
  have w1 := w.2.1
  unfold aRoom
  rw [h0, aRm_c (fun u _ => aAb_c h w hb) (by omega)]
theorem aRoom_0 {S : zS} {f : Nat → Int} {b : Nat} (hf : fR S f) (hb : b < (S 0).toNat) : 0 ≤ aRoom S f b ∧ aRoom S f b ≤ 100000 := by
  obtain ⟨u, h1, h2, h3⟩ := aRm_at (S := S) (f := f) (b := b) ((S 0).toNat) (Nat.le_refl _)
  have : -100000 ≤ f u ∧ f u ≤ 100000 := by
    rcases h1 with rfl | h1
    · exact hf _ hb
    · exact hf u h1
  unfold aRoom
  split <;> omega
def aBst (S : zS) (r : Nat → Int) : Nat → Int
  | 0 => -1
  | n + 1 => if aBrk S n = false ∧ (aBst S r n < 0 ∨ r (aBst S r n).toNat < r n) then (n : Int) else aBst S r n
theorem aBst_r {S : zS} {r : Nat → Int} : ∀ (n : Nat), -1 ≤ aBst S r n ∧ aBst S r n < n
  | 0 => ⟨by show -1 ≤ (-1 : Int); omega, by show (-1 : Int) < ((0 : Nat) : Int); omega⟩
  | n + 1 => by
    have h := aBst_r (S := S) (r := r) n
    show -1 ≤ (if _ then _ else _) ∧ (if _ then _ else _) < _
    split <;> omega
theorem zc107 {d p : Nat} {S : zS} {σ : zM} (hA : cA 0 S σ) (wa : wA S) (hp : p < (S 2).toNat) : ∃ τ, zev (d + 6) 107 [.inr (.inr (0, 30)), .inl (iI p)] σ = some (0, 0, τ) ∧ zFr (WG 1) σ τ ∧ cA 1 (aSit S p (-1)) τ ∧ cS 1 (aSit S p (-1)) (aSp (aSit S p (-1))) τ := by
  have p1 := wa.2.2.1.2.1
  have b0 := wa.1.1
  obtain ⟨τ, c1, c2, c3⟩ := zc25 (d := d) (g := 1) (by decide) wa hA
  have h2 := cA_sit (p := p) (z := -1) c3 wa (by omega)
  have w2 := aSit_w (p := p) (z := -1) wa hp ⟨by omega, by omega⟩
  obtain ⟨τ1, b1, b2, b3⟩ := zc27 (d := d) h2 w2
  have b1 : zev (d + 5) 27 [.inr (.inr (1, 0))] (zwI τ 1 18 p (-9)) = some (0, 0, τ1) := b1
  rw [ez_107]
  simp only [c1, zbs, zgd_t (iI_ink (z := p) (k := p) rfl (show p < 8 by omega) (by decide)), iI_Nn (show p ≤ 2147483647 by omega), b1]
  exact ⟨τ1, rfl, zFr_tt c2 (zFr_tt (zFr_w ⟨rfl, by omega⟩) (zFr_i b2 fun _ _ _ q => ⟨q.1, by omega⟩)), cA_s h2 b2, b3⟩
theorem zx_102 {x : zXx} (w : WX x) (z : Int) (hz : zrn z) : zCall 102 198 [.inl (iI z)] x := by
  have wb := w.1.1
  have b0 := wb.1
  have b1 := wb.2.1
  have wp := w.1.2.2.1
  have p0 := wp.1
  have p1 := wp.2.1
  by_cases q : 0 ≤ z ∧ z < x.1 2
  case neg =>
    refine zCq (-1) w (fun σ h => ?_) (fun σ h => ?_)
    · rw [ez_102]
      simp only [zc37 h.1.2.2.2.1.1 ⟨p0, p1⟩ hz, zbs, zBi, decide_eq_false q, cond_false]
      exact ⟨σ, rfl, zFr_r σ⟩
    · rw [ez_198]
      simp only [zm151 (d := 61) h.1 ⟨p0, p1⟩ hz, zbs, zBi, decide_eq_false q, cond_false]
      exact ⟨σ, rfl, zFr_r σ, h.1⟩
  case pos =>
    obtain ⟨p, rfl⟩ := zint q.1
    have hp : p < (x.1 2).toNat := by omega
    have w2 := aSit_w (p := p) (z := -1) w.1 hp ⟨by omega, by omega⟩
    have e0 : aSit x.1 p (-1) 0 = x.1 0 := aSit_n (by omega)
    have hf : fR x.1 (aSp (aSit x.1 p (-1))) := fun b hb => aSp_r w2 b (by rw [e0]; exact hb)
    have hf2 := aSp_r w2
    have hrc : ∀ b, b < (x.1 0).toNat → aRoom (aSit x.1 p (-1)) (aSp (aSit x.1 p (-1))) b = aRoom x.1 (aSp (aSit x.1 p (-1))) b := fun b hb => aRoom_c wb hb e0 (fun b _ => aSit_n (by omega))
    have hbr : ∀ b, b < 9 → aBrk (aSit x.1 p (-1)) b = aBrk x.1 b := fun b hb => by unfold aBrk; rw [aSit_n (by omega)]
    generalize hr : aRoom x.1 (aSp (aSit x.1 p (-1))) = r at hrc
    have hrr : ∀ b, b < (x.1 0).toNat → 0 ≤ r b ∧ r b ≤ 100000 := fun b hb => by rw [← hr]; exact aRoom_0 hf hb
    refine zCq (if aBst x.1 r ((x.1 0).toNat) < 0 then -3 else iI (aBst x.1 r ((x.1 0).toNat))) w (fun σ h => ?_) (fun σ h => ?_)
    · obtain ⟨τ, c1, c2, c3, c4⟩ := zc107 (d := 57) h.1 w.1 hp
      rw [ez_102]
      simp only [zc37 h.1.2.2.2.1.1 ⟨p0, p1⟩ hz, zbs, zBi, decide_eq_true q, cond_true, c1]
      refine ⟨τ, ?_, zFr_i c2 fun _ _ _ q => by omega⟩
      have key : ∀ i, i ≤ (x.1 0).toNat → ∀ d1 : Option zV, zrun (zev 63) zT_102 29 [some (.inr (.inr (0, 30))), d1, some (.inl (iI (if aBst x.1 r i < 0 then -1 else r (aBst x.1 r i).toNat))), some (.inl (if aBst x.1 r i < 0 then -3 else iI (aBst x.1 r i))), some (.inl (iI i))] [] τ = some (if aBst x.1 r ((x.1 0).toNat) < 0 then -3 else iI (aBst x.1 r ((x.1 0).toNat)), 0, τ) := by
        intro i hi
        refine zloop (n := (x.1 0).toNat) (P := fun i => ∀ d1 : Option zV, zrun (zev 63) zT_102 29 [some (.inr (.inr (0, 30))), d1, some (.inl (iI (if aBst x.1 r i < 0 then -1 else r (aBst x.1 r i).toNat))), some (.inl (if aBst x.1 r i < 0 then -3 else iI (aBst x.1 r i))), some (.inl (iI i))] [] τ = some (if aBst x.1 r ((x.1 0).toNat) < 0 then -3 else iI (aBst x.1 r ((x.1 0).toNat)), 0, τ)) ?_ ?_ hi
        · intro d1
          rw [ez_102_29, c3.1.1, e0, if_neg (by rw [iI_lt (by omega) (by omega)]; omega)]
        · intro i hi ih d1
          have hl := aBst_r (S := x.1) (r := r) i
          have e : aBst x.1 r (i + 1) = if aBrk x.1 i = false ∧ (aBst x.1 r i < 0 ∨ r (aBst x.1 r i).toNat < r i) then (i : Int) else aBst x.1 r i := rfl
          have h32 : zev 63 32 [.inr (.inr (1, 0)), .inl (iI i)] τ = some (iI (r i), 0, τ) := by
            rw [← hrc i hi]
            exact zc32 (d := 60) c3.1 w2.1 c4 hf2 (by rw [e0]; exact hi)
          have r1 := hrr i hi
          rw [ez_102_29, c3.1.1, e0, if_pos (by rw [iI_lt (by omega) (by omega)]; omega), zc14 (d := 61) c3.1 c3.2.1 w2.1 (by omega)]
          simp only [zbs, zBi, Int.toNat_natCast, e0, decide_eq_true (show (0 : Int) ≤ i ∧ (i : Int) < x.1 0 by omega), Bool.true_and, hbr i (by omega), hki1, h32]
          cases hh : aBrk x.1 i
          · simp only [Bool.not_false, cond_true]
            by_cases q2 : aBst x.1 r i < 0
            · rw [if_pos (⟨hh, Or.inl q2⟩ : aBrk x.1 i = false ∧ _)] at e
              rw [if_pos q2, if_pos (by show iI (-1) < iI (r i); rw [iI_lt (by omega) (by omega)]; omega)]
              have := ih none
              rw [e, if_neg (by omega), if_neg (by omega), Int.toNat_natCast] at this
              exact this
            · obtain ⟨m, hm⟩ := zint (show 0 ≤ aBst x.1 r i by omega)
              rw [hm] at hl e q2 ⊢
              rw [Int.toNat_natCast] at e ⊢
              have r2 := hrr m (by omega)
              rw [if_neg q2]
              by_cases q3 : r m < r i
              · rw [if_pos (⟨hh, Or.inr q3⟩ : aBrk x.1 i = false ∧ _)] at e
                rw [if_pos (by rw [iI_lt (by omega) (by omega)]; exact q3)]
                have := ih none
                rw [e, if_neg (by omega), if_neg (by omega), Int.toNat_natCast] at this
                exact this
              · rw [if_neg (fun z => z.2.elim (fun y => by omega) q3)] at e
                rw [if_neg (by rw [iI_lt (by omega) (by omega)]; exact q3)]
                have := ih none
                rw [e, if_neg q2, if_neg q2, Int.toNat_natCast] at this
                rw [if_neg q2]
                exact this
          · simp only [Bool.not_true, cond_false]
            rw [if_neg (fun z => by rw [hh] at z; cases z.1)] at e
            have := ih none
            rw [e] at this
            exact this
      exact key 0 (by omega) _
    · have h79 := zm179 (d := 60) h.1 (show p < 8 by omega)
      have h80 := zm180 (d := 61) (z := -1) (σ := σ) (show p < 8 by omega)
      have h80 : zev 63 180 [.inr (.inr (0, 60)), .inl (iI p), .inl (-1)] σ = _ := h80
      have hS2 : mS 61 (aSit x.1 p (-1)) (zwI σ 0 61 (54 + 3 * p) (iI (-1 + 1))) := mS_w h.1
      obtain ⟨τ, c1, c2, c3, c4, c5⟩ := zm172 (d := 56) hS2 w2
      have hS3 : mS 61 x.1 (zwI τ 0 61 (54 + 3 * p) (iI (aSeat x.1 p + 1))) := by
        have := mS_up (i := 54 + 3 * p) (v := aSeat x.1 p + 1) c3
        unfold aSit at this
        rw [zup_up, zup_same (by unfold aSeat; omega)] at this
        exact this
      have hF : mF x.1 (aSp (aSit x.1 p (-1))) (zwI τ 0 61 (54 + 3 * p) (iI (aSeat x.1 p + 1))) := by
        obtain ⟨h', e', a1, a2, a3⟩ := mF_sp w2 c4 c5
        exact ⟨h', e', fun b hb => by rw [zfe (by omega)]; exact a1 b (by rw [e0]; exact hb), fun b hb => by rw [zfe (by omega)]; exact a2 b (by rw [e0]; exact hb), fun b hb => a3 b (by rw [e0]; exact hb)⟩
      rw [ez_198]
      simp only [zm151 (d := 61) h.1 ⟨p0, p1⟩ hz, zbs, zBi, decide_eq_true q, cond_true, h79, h80, c1, zm180 (d := 61) (z := aSeat x.1 p) (σ := τ) (show p < 8 by omega)]
      generalize hτ2 : zwI τ 0 61 (54 + 3 * p) (iI (aSeat x.1 p + 1)) = τ2 at hS3 hF
      have f : zFr WM σ τ2 := by
        subst hτ2
        exact zFr_tt (zFr_tt (zFr_w (by omega)) c2) (zFr_w (by omega))
      refine ⟨τ2, ?_, f, hS3⟩
      have key : ∀ i, i ≤ (x.1 0).toNat → ∀ d1 d2 : Option zV, zrun (zev 63) zT_198 37 [some (.inr (.inr (0, 60))), d1, d2, some (.inl (iI (aBst x.1 r i))), some (.inl (iI i))] [] τ2 = some (if aBst x.1 r ((x.1 0).toNat) < 0 then -3 else iI (aBst x.1 r ((x.1 0).toNat)), 0, τ2) := by
        intro i hi
        refine zloop (n := (x.1 0).toNat) (P := fun i => ∀ d1 d2 : Option zV, zrun (zev 63) zT_198 37 [some (.inr (.inr (0, 60))), d1, d2, some (.inl (iI (aBst x.1 r i))), some (.inl (iI i))] [] τ2 = some (if aBst x.1 r ((x.1 0).toNat) < 0 then -3 else iI (aBst x.1 r ((x.1 0).toNat)), 0, τ2)) ?_ ?_ hi
        · intro d1 d2
          have hl := aBst_r (S := x.1) (r := r) ((x.1 0).toNat)
          rw [ez_198_37, hS3 0 (by decide), if_neg (by rw [iI_lt (by omega) (by omega)]; omega)]
          simp only [iI_lt0 (show zrn (aBst x.1 r ((x.1 0).toNat)) by omega)]
          by_cases q2 : aBst x.1 r ((x.1 0).toNat) < 0
          · rw [if_pos q2, if_pos q2]
          · rw [if_neg q2, if_neg q2]
        · intro i hi ih d1 d2
          have w3 := wb.2.2 i hi
          have hl := aBst_r (S := x.1) (r := r) i
          have e : aBst x.1 r (i + 1) = if aBrk x.1 i = false ∧ (aBst x.1 r i < 0 ∨ r (aBst x.1 r i).toNat < r i) then (i : Int) else aBst x.1 r i := rfl
          have h96 : ∀ b, b < (x.1 0).toNat → zev 63 196 [.inr (.inr (0, 60)), .inl (iI b)] τ2 = some (iI (r b), 0, τ2) := fun b hb => by
            rw [← hr]
            exact zm196 (d := 59) hS3 wb hF hf hb
          have r1 := hrr i hi
          rw [ez_198_37, hS3 0 (by decide), if_pos (by rw [iI_lt (by omega) (by omega)]; omega)]
          simp only [zm157 (d := 60) hS3 (show i < 9 by omega) (show 0 ≤ x.1 (11 + 5 * i) ∧ x.1 (11 + 5 * i) ≤ 1 by omega), zbs, zBi, hki1, h96 i hi]
          cases hh : aBrk x.1 i
          · rw [cond_false]
            by_cases q2 : aBst x.1 r i < 0
            · rw [if_pos (⟨hh, Or.inl q2⟩ : aBrk x.1 i = false ∧ _)] at e
              rw [if_pos (by rw [iI_lt0 (by omega)]; exact q2)]
              have := ih none none
              rw [e] at this
              exact this
            · rw [if_neg (by rw [iI_lt0 (by omega)]; exact q2)]
              obtain ⟨m, hm⟩ := zint (show 0 ≤ aBst x.1 r i by omega)
              rw [hm] at hl e ⊢
              rw [Int.toNat_natCast] at e
              have r2 := hrr m (by omega)
              simp only [h96 m (by omega), zbs, iI_lt (show zrn (r m) by omega) (show zrn (r i) by omega)]
              by_cases q3 : r m < r i
              · rw [if_pos (⟨hh, Or.inr q3⟩ : aBrk x.1 i = false ∧ _)] at e
                rw [if_pos q3]
                have := ih none none
                rw [e] at this
                exact this
              · rw [if_neg (fun z => z.2.elim (fun y => by omega) q3)] at e
                rw [if_neg q3]
                have := ih none none
                rw [e] at this
                exact this
          · rw [cond_true]
            rw [if_neg (fun z => by rw [hh] at z; cases z.1)] at e
            have := ih none none
            rw [e] at this
            exact this
      exact key 0 (by omega) _ _
