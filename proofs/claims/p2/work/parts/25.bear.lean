theorem aAbF_u {S : zS} (w : wB S) {u : Nat} : ∀ (n m c : Nat), c < n → c < m → c < (S 0).toNat → aAbF S n c u = aAbF S m c u
  | 0, _, _, h, _, _ => absurd h (Nat.not_lt_zero _)
  | _ + 1, 0, _, _, h, _ => absurd h (Nat.not_lt_zero _)
  | n + 1, m + 1, c, hn, hm, hc => by
    show (Nat.beq c u || (decide (0 ≤ aPar S c) && aAbF S n (aPar S c).toNat u)) = (Nat.beq c u || (decide (0 ≤ aPar S c) && aAbF S m (aPar S c).toNat u))
    by_cases q : 0 ≤ aPar S c
    · have w2 := w.2.2 c hc
      have hp : (aPar S c).toNat < c := by unfold aPar at q ⊢; omega
      rw [aAbF_u w n m (aPar S c).toNat (by omega) (by omega) (by omega)]
    · rw [decide_eq_false q, Bool.false_and, Bool.false_and]
theorem aAb_u {S : zS} (w : wB S) {c u : Nat} (hc : c < (S 0).toNat) : aAb S c u = (Nat.beq c u || aAbI S (aPar S c) u) := by
  have w1 := w.2.1
  show (Nat.beq c u || (decide (0 ≤ aPar S c) && aAbF S 8 (aPar S c).toNat u)) = (Nat.beq c u || (decide (0 ≤ aPar S c) && aAbF S 9 (aPar S c).toNat u))
  by_cases q : 0 ≤ aPar S c
  · have w2 := w.2.2 c hc
    have hp : (aPar S c).toNat < c := by unfold aPar at q ⊢; omega
    rw [aAbF_u w 8 9 (aPar S c).toNat (by omega) (by omega) (by omega)]
  · rw [decide_eq_false q, Bool.false_and, Bool.false_and]
theorem aAb_le {S : zS} (w : wB S) {u : Nat} : ∀ (n c : Nat), c < n → c < (S 0).toNat → aAb S c u = true → u ≤ c
  | 0, _, h, _, _ => absurd h (Nat.not_lt_zero _)
  | n + 1, c, hn, hc, h => by
    rw [aAb_u w hc, Bool.or_eq_true] at h
    rcases h with h | h
    · rw [Nat.eq_of_beq_eq_true h]; exact Nat.le_refl _
    · unfold aAbI at h
      rw [Bool.and_eq_true] at h
      have q := of_decide_eq_true h.1
      have w2 := w.2.2 c hc
      have hp : (aPar S c).toNat < c := by unfold aPar at q ⊢; omega
      have := aAb_le w n (aPar S c).toNat (by omega) (by omega) h.2
      omega
theorem aAbI_n {S : zS} {z : Int} {u : Nat} (h : z < 0) : aAbI S z u = false := by
  unfold aAbI
  rw [decide_eq_false (by omega), Bool.false_and]
theorem aAbI_p {S : zS} {c u : Nat} : aAbI S (c : Int) u = aAb S c u := by
  unfold aAbI
  rw [decide_eq_true (by omega), Bool.true_and, Int.toNat_natCast]
def aBw (S : zS) (b n : Nat) : Int := S 5 * S (9 + 5 * b) + zsum (fun p => bif aAbI S (aSeat S p) b then S (52 + 3 * p) else 0) n
theorem aBw_e {S : zS} {b : Nat} : aBw S b ((S 2).toNat) = aBear S b := rfl
theorem aBw_b {S : zS} {b n : Nat} (w : wB S) (v : wW S) (q : wP S) (hb : b < (S 0).toNat) (hn : n ≤ (S 2).toNat) : 0 ≤ aBw S b n ∧ aBw S b n ≤ 81 + 200 * n := by
  have w2 := w.2.2 b hb
  obtain ⟨-, -, v3, v4⟩ := v
  have h1 : 0 ≤ S 5 * S (9 + 5 * b) := Int.mul_nonneg v3 (by omega)
  have h2 : S 5 * S (9 + 5 * b) ≤ 9 * 9 := Int.mul_le_mul v4 (by omega) (by omega) (by omega)
  have h3 := zsum_le (a := 0) (b := 200) (n := n) (f := fun p => bif aAbI S (aSeat S p) b then S (52 + 3 * p) else 0) (fun i hi => by
    have q2 := q.2.2 i (by omega)
    cases aAbI S (aSeat S i) b
    · rw [cond_false]; omega
    · rw [cond_true]; omega)
  unfold aBw
  omega
theorem aBw_s {S : zS} {b n : Nat} : aBw S b (n + 1) = aBw S b n + (bif aAbI S (aSeat S n) b then S (52 + 3 * n) else 0) := by
  show _ + (zsum _ n + _) = (_ + zsum _ n) + _
  rw [Int.add_assoc]
theorem aSeat_r {S : zS} {p : Nat} (q : wP S) (hp : p < (S 2).toNat) : -1 ≤ aSeat S p ∧ aSeat S p < S 0 := by
  have q2 := q.2.2 p hp
  unfold aSeat
  omega
theorem zc26 {d g b : Nat} {S : zS} {σ : zM} (hB : cB g S σ) (hW : cW g S σ) (hP : cP g S σ) (w : wB S) (v : wW S) (q : wP S) (hb : b < (S 0).toNat) : zev (d + 3) 26 [.inr (.inr (g, 0)), .inl (iI b)] σ = some (iI (aBear S b), 0, σ) := by
  have w0 := w.1
  have w1 := w.2.1
  have q0 := q.1
  have q1 := q.2.1
  have key : ∀ i, i ≤ (S 2).toNat → zrun (zev (d + 2)) zT_26 20 [some (.inr (.inr (g, 0))), some (.inl (iI b)), some (.inl (iI (aBw S b i))), some (.inl (iI i))] [] σ = some (iI (aBear S b), 0, σ) := by
    intro i hi
    refine zloop (n := (S 2).toNat) (P := fun i => zrun (zev (d + 2)) zT_26 20 [some (.inr (.inr (g, 0))), some (.inl (iI b)), some (.inl (iI (aBw S b i))), some (.inl (iI i))] [] σ = some (iI (aBear S b), 0, σ)) ?_ ?_ hi
    · rw [ez_26_20, hP.1, if_neg (by rw [iI_lt (by omega) (by omega)]; omega), aBw_e]
    · intro i hi ih
      have hp := hP.2 i hi
      have hki : iI (i : Int) + 1 = iI ((i + 1 : Nat) : Int) := by rw [iI_a1]; congr 1 <;> omega
      rw [ez_26_20, hP.1, if_pos (by rw [iI_lt (by omega) (by omega)]; omega)]
      simp only [zgd_t (iI_ink (z := i) (k := i) rfl (show i < 8 by omega) (by decide)), iI_Nn (show i ≤ 2147483647 by omega), hp.2.2, zc15 hB ⟨w0, w1⟩ (aSeat_r q hi) (show b < 9 by omega), zbs, zBi, hki, hp.1]
      rw [aBw_s] at ih
      cases hh : aAbI S (aSeat S i) b
      · rw [hh, cond_false, Int.add_zero] at ih
        exact ih
      · rw [hh, cond_true] at ih
        rw [cond_true, iI_add]
        exact ih
  rw [ez_26]
  simp only [zgd_t (iI_ink (z := b) (k := b) rfl (show b < 9 by omega) (by decide)), iI_Nn (show b ≤ 2147483647 by omega), hW.2, (hB.2 b hb).2.2.1, iI_mul]
  have := key 0 (by omega)
  unfold aBw at this
  rw [show zsum _ 0 = 0 from rfl, Int.add_zero] at this
  exact this
abbrev Ws (g : Nat) : Nat → Nat → Nat → Prop := fun g' k' _ => g' = g ∧ (k' = 13 ∨ k' = 14 ∨ k' = 22)
def cS (g : Nat) (S : zS) (f : Nat → Int) (σ : zM) : Prop := ∀ b, b < (S 0).toNat → σ.1 g 22 b = iI (f b)
theorem cK_f {g : Nat} {S : zS} {σ τ : zM} (h : cK g S σ) (e : τ.1 g 1 = σ.1 g 1) : cK g S τ := by
  unfold cK at h ⊢
  rw [e]
  exact h
theorem cW_f {g : Nat} {S : zS} {σ τ : zM} (h : cW g S σ) (e : τ.1 g 1 = σ.1 g 1) : cW g S τ := by
  unfold cW at h ⊢
  rw [e]
  exact h
theorem cP_f {g : Nat} {S : zS} {σ τ : zM} (h : cP g S σ) (e : ∀ k, 15 ≤ k → k ≤ 18 → τ.1 g k = σ.1 g k) : cP g S τ := by
  unfold cP at h ⊢
  rw [e 15 (by decide) (by decide), e 16 (by decide) (by decide), e 17 (by decide) (by decide), e 18 (by decide) (by decide)]
  exact h
theorem cR_f {g : Nat} {S : zS} {σ τ : zM} (h : cR g S σ) (e : τ.1 g 19 0 = σ.1 g 19 0) (e2 : ∀ k, 20 ≤ k → k ≤ 21 → τ.1 g k = σ.1 g k) : cR g S τ := by
  unfold cR at h ⊢
  rw [e, e2 20 (by decide) (by decide), e2 21 (by decide) (by decide)]
  exact h
theorem cZ_f {g : Nat} {S : zS} {σ τ : zM} (h : cZ g S σ) (e : τ.1 g 0 3 = σ.1 g 0 3) : cZ g S τ := by
  unfold cZ at h ⊢
  rw [e]
  exact h
theorem cA_s {g : Nat} {S : zS} {σ τ : zM} (h : cA g S σ) (f : zFr (Ws g) σ τ) : cA g S τ := by
  have e : ∀ k, k ≠ 13 → k ≠ 14 → k ≠ 22 → τ.1 g k = σ.1 g k := fun k a b c => zFr_f f (fun i => by omega)
  obtain ⟨h1, h2, h3, h4, h5, h6, h7⟩ := h
  exact ⟨cB_f h1 fun k _ _ => e k (by omega) (by omega) (by omega), cK_f h2 (e 1 (by decide) (by decide) (by decide)), cW_f h3 (e 1 (by decide) (by decide) (by decide)), cP_f h4 fun k _ _ => e k (by omega) (by omega) (by omega), cR_f h5 (by rw [e 19 (by decide) (by decide) (by decide)]) fun k _ _ => e k (by omega) (by omega) (by omega), cU_f h6 fun k _ _ => e k (by omega) (by omega) (by omega), cZ_f h7 (by rw [e 0 (by decide) (by decide) (by decide)])⟩
