theorem aAbF_c {S T : zS} {u : Nat} (h : ∀ b, b < 9 → T (8 + 5 * b) = S (8 + 5 * b)) (w : wB S) : ∀ (n c : Nat), c < (S 0).toNat → aAbF T n c u = aAbF S n c u
  | 0, _, _ => rfl
  | n + 1, c, hc => by
    have w1 := w.2.1
    have e : aPar T c = aPar S c := by unfold aPar; rw [h c (by omega)]
    show (Nat.beq c u || (decide (0 ≤ aPar T c) && aAbF T n (aPar T c).toNat u)) = (Nat.beq c u || (decide (0 ≤ aPar S c) && aAbF S n (aPar S c).toNat u))
    rw [e]
    by_cases q : 0 ≤ aPar S c
    · have w2 := w.2.2 c hc
      have hp : (aPar S c).toNat < c := by unfold aPar at q ⊢; omega
      rw [aAbF_c h w n _ (by omega)]
    · rw [decide_eq_false q, Bool.false_and, Bool.false_and]
theorem aAb_c {S T : zS} {c u : Nat} (h : ∀ b, b < 9 → T (8 + 5 * b) = S (8 + 5 * b)) (w : wB S) (hc : c < (S 0).toNat) : aAb T c u = aAb S c u := aAbF_c h w 9 c hc
theorem aAbI_c {S T : zS} {z : Int} {u : Nat} (h : ∀ b, b < 9 → T (8 + 5 * b) = S (8 + 5 * b)) (w : wB S) (hz : z < S 0) : aAbI T z u = aAbI S z u := by
  by_cases q : z < 0
  · rw [aAbI_n q, aAbI_n q]
  · obtain ⟨m, rfl⟩ := zint (show 0 ≤ z by omega)
    rw [aAbI_p, aAbI_p, aAb_c h w (by omega)]
abbrev dH (i : Nat) : Prop := i = 1 ∨ i = 4 ∨ i = 5 ∨ (7 ≤ i ∧ i < 52 ∧ (i - 7) % 5 ≠ 4) ∨ 88 ≤ i
theorem aEnd_c {S T : zS} (h : ∀ i, 88 ≤ i → T i = S i) : ∀ k, aEnd T k = aEnd S k
  | 0 => rfl
  | k + 1 => by
    show (T (91 + 4 * k)).toNat = (S (91 + 4 * k)).toNat
    rw [h _ (by omega)]
theorem aCod_c {S T : zS} (h : ∀ i, 88 ≤ i → T i = S i) : aCod T = aCod S := funext fun k => by
  show iI (T (120 + k)) = iI (S (120 + k))
  rw [h _ (by omega)]
theorem aFct_c {S T : zS} {b : Nat} (hb : b < 9) (h : ∀ i, dH i → T i = S i) : aFct T b = aFct S b := funext fun i => by
  unfold aFct
  split
  · rw [h 4 (by omega)]
  · rw [h 5 (by omega)]
  · rw [h (9 + 5 * b) (by omega)]
  · rw [h (10 + 5 * b) (by omega)]
  · rfl
theorem aFst_c {S T : zS} {b : Nat} (hb : b < 9) (h : ∀ i, dH i → T i = S i) : ∀ n k, aFst T b n k = aFst S b n k
  | 0, _ => rfl
  | n + 1, k => by
    have h8 : ∀ i, 88 ≤ i → T i = S i := fun i hi => h i (by omega)
    have e : aCnd T b k = aCnd S b k := by
      unfold aCnd
      rw [aFct_c hb h, aCod_c h8, aEnd_c h8, aEnd_c h8]
    show (bif aUnd (T (7 + 5 * b)) (T (88 + 4 * k)) && aCnd T b k then some k else aFst T b n (k + 1)) = (bif aUnd (S (7 + 5 * b)) (S (88 + 4 * k)) && aCnd S b k then some k else aFst S b n (k + 1))
    rw [e, h (7 + 5 * b) (by omega), h (88 + 4 * k) (by omega), aFst_c hb h n (k + 1)]
theorem aHold_c {S T : zS} {b : Nat} (hb : b < 9) (h : ∀ i, dH i → T i = S i) : aHold T b = aHold S b := by
  have e1 : aHld T b = aHld S b := by
    unfold aHld
    rw [h 1 (by omega), aFst_c hb h]
    generalize aFst S b ((S 1).toNat) 0 = o
    cases o with
    | none => exact h (10 + 5 * b) (by omega)
    | some k =>
      unfold aHlf
      try dsimp only
      rw [h (10 + 5 * b) (by omega), h (89 + 4 * k) (by omega), h (90 + 4 * k) (by omega)]
  unfold aHold
  rw [e1]
  unfold aKnd
  rw [h (7 + 5 * b) (by omega), h (9 + 5 * b) (by omega), h 4 (by omega)]
def aSit (S : zS) (p : Nat) (z : Int) : zS := zup S (54 + 3 * p) (z + 1)
theorem aSit_n {S : zS} {p : Nat} {z : Int} {i : Nat} (h : i ≠ 54 + 3 * p) : aSit S p z i = S i := zup_n h
theorem aSit_s {S : zS} {p : Nat} {z : Int} : aSeat (aSit S p z) p = z := by
  unfold aSeat aSit
  rw [zup_s]; omega
theorem aSit_o {S : zS} {p q : Nat} {z : Int} (h : q ≠ p) : aSeat (aSit S p z) q = aSeat S q := by
  unfold aSeat
  rw [aSit_n (by omega)]
theorem aSit_hold {S : zS} {p : Nat} {z : Int} (hp : p < 8) {b : Nat} (hb : b < 9) : aHold (aSit S p z) b = aHold S b := aHold_c hb fun i hi => aSit_n (by omega)
theorem aSit_ab {S : zS} {p : Nat} {z y : Int} (hp : p < 8) (w : wB S) (hy : y < S 0) {u : Nat} : aAbI (aSit S p z) y u = aAbI S y u := aAbI_c (fun b hb => aSit_n (by omega)) w hy
theorem wB_c {S T : zS} (w : wB S) (h0 : T 0 = S 0) (h : ∀ i, 7 ≤ i → i < 52 → (i - 7) % 5 ≠ 4 → T i = S i) (hk : ∀ b, b < (S 0).toNat → 0 ≤ T (11 + 5 * b) ∧ T (11 + 5 * b) ≤ 1) : wB T := by
  obtain ⟨w0, w1, w2⟩ := w
  refine ⟨by omega, by omega, fun b hb => ?_⟩
  have hb' : b < (S 0).toNat := by rw [h0] at hb; exact hb
  have w3 := w2 b hb'
  rw [h (7 + 5 * b) (by omega) (by omega) (by omega), h (8 + 5 * b) (by omega) (by omega) (by omega), h (9 + 5 * b) (by omega) (by omega) (by omega), h (10 + 5 * b) (by omega) (by omega) (by omega)]
  have := hk b hb'
  omega
theorem wW_c {S T : zS} (w : wW S) (h4 : T 4 = S 4) (h5 : T 5 = S 5) : wW T := by unfold wW; rw [h4, h5]; exact w
theorem wP_c {S T : zS} (w : wP S) (h2 : T 2 = S 2) (h0 : T 0 = S 0) (h : ∀ i, 52 ≤ i → i < 76 → (i - 52) % 3 ≠ 2 → T i = S i) (hk : ∀ p, p < (S 2).toNat → 0 ≤ T (54 + 3 * p) ∧ T (54 + 3 * p) ≤ S 0) : wP T := by
  obtain ⟨w0, w1, w2⟩ := w
  refine ⟨by omega, by omega, fun p hp => ?_⟩
  have hp' : p < (S 2).toNat := by rw [h2] at hp; exact hp
  have w3 := w2 p hp'
  rw [h (52 + 3 * p) (by omega) (by omega) (by omega), h (53 + 3 * p) (by omega) (by omega) (by omega), h0]
  have := hk p hp'
  omega
theorem wR_c {S T : zS} (w : wR S) (h3 : T 3 = S 3) (h0 : S 0 ≤ T 0) (h : ∀ i, 76 ≤ i → i < 88 → T i = S i) : wR T := by
  obtain ⟨w0, w1, w2⟩ := w
  refine ⟨by omega, by omega, fun r hr => ?_⟩
  have hr' : r < (S 3).toNat := by rw [h3] at hr; exact hr
  have w3 := w2 r hr'
  rw [h (76 + 2 * r) (by omega) (by omega), h (77 + 2 * r) (by omega) (by omega)]
  omega
theorem wU_c {S T : zS} (w : wU S) (h1 : T 1 = S 1) (h : ∀ i, 88 ≤ i → T i = S i) : wU T := by
  unfold wU at w ⊢
  rw [h1, aCod_c h]
  refine ⟨w.1, w.2.1, fun k hk => ?_⟩
  have hk' : k < (S 1).toNat := hk
  rw [h (88 + 4 * k) (by omega), h (89 + 4 * k) (by omega), h (90 + 4 * k) (by omega), h (91 + 4 * k) (by omega), aEnd_c h, aEnd_c h]
  exact w.2.2 k hk'
theorem aSit_w {S : zS} {p : Nat} {z : Int} (w : wA S) (hp : p < (S 2).toNat) (hz : -1 ≤ z ∧ z < S 0) : wA (aSit S p z) := by
  obtain ⟨wb, ww, wp, wr, wu, wz⟩ := w
  have p1 := wp.2.1
  have b1 := wb.2.1
  have e : ∀ i, (i < 52 ∨ 76 ≤ i) → aSit S p z i = S i := fun i hi => aSit_n (by omega)
  refine ⟨wB_c wb (e 0 (by omega)) (fun i _ hi _ => e i (by omega)) (fun b hb => ?_), wW_c ww (e 4 (by omega)) (e 5 (by omega)), wP_c wp (e 2 (by omega)) (e 0 (by omega)) (fun i _ _ hi => aSit_n (by omega)) (fun q hq => ?_), wR_c wr (e 3 (by omega)) (by rw [e 0 (by omega)]; exact Int.le_refl _) (fun i hi _ => e i (by omega)), wU_c wu (e 1 (by omega)) (fun i hi => e i (by omega)), by rw [e 6 (by omega)]; exact wz⟩
  · have := wb.2.2 b hb
    rw [e _ (by omega)]
    omega
  · have h := wp.2.2 q hq
    by_cases hqp : q = p
    · subst hqp
      unfold aSit
      rw [zup_s]
      omega
    · rw [aSit_n (by omega)]
      omega
theorem zsum_up {f g : Nat → Int} {p : Nat} : ∀ {n : Nat}, p < n → (∀ i, i < n → i ≠ p → g i = f i) → zsum g n = zsum f n - f p + g p
  | 0, h, _ => absurd h (Nat.not_lt_zero _)
  | n + 1, h, he => by
    show zsum g n + g n = zsum f n + f n - f p + g p
    by_cases q : p = n
    · subst q
      rw [zsum_congr (n := p) (fun i hi => he i (by omega) (by omega))]
      omega
    · rw [zsum_up (n := n) (by omega) (fun i hi hne => he i (by omega) hne), he n (by omega) (by omega)]
      omega
theorem aSit_bear {S : zS} {p : Nat} {z : Int} (w : wB S) (wp : wP S) (hp : p < (S 2).toNat) (hz : z < S 0) {b : Nat} (hb : b < (S 0).toNat) : aBear (aSit S p z) b = aBear S b - (bif aAbI S (aSeat S p) b then S (52 + 3 * p) else 0) + (bif aAbI S z b then S (52 + 3 * p) else 0) := by
  have p1 := wp.2.1
  have w1 := w.2.1
  unfold aBear
  rw [aSit_n (i := 5) (by omega), aSit_n (i := 9 + 5 * b) (by omega), aSit_n (i := 2) (by omega)]
  rw [zsum_up (f := fun q => bif aAbI S (aSeat S q) b then S (52 + 3 * q) else 0) (g := fun q => bif aAbI (aSit S p z) (aSeat (aSit S p z) q) b then aSit S p z (52 + 3 * q) else 0) hp (fun i hi hne => by
    have hr := aSeat_r wp hi
    rw [aSit_o hne, aSit_ab (by omega) w hr.2, aSit_n (by omega)])]
  rw [aSit_s, aSit_ab (by omega) w hz, aSit_n (i := 52 + 3 * p) (by omega)]
  omega
