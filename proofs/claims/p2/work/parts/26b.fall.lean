theorem cB_c {g : Nat} {S T : zS} {σ : zM} (h : cB g S σ) (w : wB S) (h0 : T 0 = S 0) (e : ∀ i, 7 ≤ i → i < 52 → (i - 7) % 5 ≠ 4 → T i = S i) : cB g T σ := by
  have w1 := w.2.1
  refine ⟨by rw [h0]; exact h.1, fun b hb => ?_⟩
  have hb' : b < (S 0).toNat := by rw [h0] at hb; exact hb
  have h2 := h.2 b hb'
  have ep : aPar T b = aPar S b := by unfold aPar; rw [e (8 + 5 * b) (by omega) (by omega) (by omega)]
  rw [e (7 + 5 * b) (by omega) (by omega) (by omega), e (9 + 5 * b) (by omega) (by omega) (by omega), e (10 + 5 * b) (by omega) (by omega) (by omega), ep]
  refine ⟨h2.1, h2.2.1, h2.2.2.1, h2.2.2.2.1, fun u hu => ?_⟩
  rw [aAb_c (fun b hb => e (8 + 5 * b) (by omega) (by omega) (by omega)) w hb']
  exact h2.2.2.2.2 u hu
theorem cK_c {g : Nat} {S T : zS} {σ : zM} (h : cK g S σ) (w : wB S) (h0 : T 0 = S 0) (e : ∀ b, b < 9 → T (11 + 5 * b) = S (11 + 5 * b)) : cK g T σ := by
  intro b hb
  rw [h b hb, h0]
  unfold aBrk
  rw [e b hb]
theorem cW_c {g : Nat} {S T : zS} {σ : zM} (h : cW g S σ) (e4 : T 4 = S 4) (e5 : T 5 = S 5) : cW g T σ := by
  unfold cW
  rw [e4, e5]; exact h
theorem cP_c {g : Nat} {S T : zS} {σ : zM} (h : cP g S σ) (h2 : T 2 = S 2) (e : ∀ i, 52 ≤ i → i < 76 → T i = S i) (w : wP S) : cP g T σ := by
  have w1 := w.2.1
  refine ⟨by rw [h2]; exact h.1, fun p hp => ?_⟩
  have hp' : p < (S 2).toNat := by rw [h2] at hp; exact hp
  have es : aSeat T p = aSeat S p := by unfold aSeat; rw [e (54 + 3 * p) (by omega) (by omega)]
  rw [e (52 + 3 * p) (by omega) (by omega), e (53 + 3 * p) (by omega) (by omega), es]
  exact h.2 p hp'
theorem cR_c {g : Nat} {S T : zS} {σ : zM} (h : cR g S σ) (h3 : T 3 = S 3) (e : ∀ i, 76 ≤ i → i < 88 → T i = S i) (w : wR S) : cR g T σ := by
  have w1 := w.2.1
  refine ⟨by rw [h3]; exact h.1, fun r hr => ?_⟩
  have hr' : r < (S 3).toNat := by rw [h3] at hr; exact hr
  rw [e (76 + 2 * r) (by omega) (by omega), e (77 + 2 * r) (by omega) (by omega)]
  exact h.2 r hr'
theorem cU_c {g : Nat} {S T : zS} {σ : zM} (h : cU g S σ) (h1 : T 1 = S 1) (e : ∀ i, 88 ≤ i → T i = S i) : cU g T σ := by
  refine ⟨by rw [h1]; exact h.1, fun k hk => ?_⟩
  have hk' : k < (S 1).toNat := by rw [h1] at hk; exact hk
  rw [e (88 + 4 * k) (by omega), e (89 + 4 * k) (by omega), e (90 + 4 * k) (by omega), aCod_c e, aEnd_c e, aEnd_c e]
  exact h.2 k hk'
theorem cP_sit {g : Nat} {S : zS} {σ : zM} {p : Nat} {z : Int} (h : cP g S σ) (hp : p < 8) : cP g (aSit S p z) (zwI σ g 18 p (iI (cE z))) := by
  refine ⟨by rw [zfe (by omega), aSit_n (by omega)]; exact h.1, fun q hq => ?_⟩
  have hq' : q < (S 2).toNat := by rw [aSit_n (by omega)] at hq; exact hq
  have h2 := h.2 q hq'
  rw [zfe (g' := g) (k' := 16) (by omega), zfe (g' := g) (k' := 17) (by omega), aSit_n (by omega), aSit_n (by omega)]
  refine ⟨h2.1, h2.2.1, ?_⟩
  by_cases e : q = p
  · subst e
    rw [zfs, aSit_s]
  · rw [zfe (fun z => e z.2.2), aSit_o e]
    exact h2.2.2
theorem cA_sit {g : Nat} {S : zS} {σ : zM} {p : Nat} {z : Int} (h : cA g S σ) (w : wA S) (hp : p < 8) : cA g (aSit S p z) (zwI σ g 18 p (iI (cE z))) := by
  obtain ⟨h1, h2, h3, h4, h5, h6, h7⟩ := h
  obtain ⟨wb, ww, wp, wr, wu, wz⟩ := w
  refine ⟨?_, ?_, ?_, cP_sit h4 hp, ?_, ?_, ?_⟩
  · exact cB_f (cB_c h1 wb (aSit_n (by omega)) fun i _ _ _ => aSit_n (by omega)) fun k _ _ => zfn (by omega)
  · exact cK_f (cK_c h2 wb (aSit_n (by omega)) fun b _ => aSit_n (by omega)) (zfn (by omega))
  · exact cW_f (cW_c h3 (aSit_n (by omega)) (aSit_n (by omega))) (zfn (by omega))
  · exact cR_f (cR_c h5 (aSit_n (by omega)) (fun i _ _ => aSit_n (by omega)) wr) (zfe (by omega)) fun k _ _ => zfn (by omega)
  · exact cU_f (cU_c h6 (aSit_n (by omega)) fun i _ => aSit_n (by omega)) fun k _ _ => zfn (by omega)
  · unfold cZ at h7 ⊢
    rw [zfe (by omega), aSit_n (by omega)]; exact h7
def aBk (S : zS) (w : Nat) : Nat → zS
  | 0 => S
  | n + 1 => bif aAb S n w then zup (aBk S w n) (11 + 5 * n) 1 else aBk S w n
theorem aBk_n {S : zS} {w : Nat} {i : Nat} (h : i < 7 ∨ 52 ≤ i ∨ (i - 7) % 5 ≠ 4) : ∀ {n : Nat}, n ≤ 9 → aBk S w n i = S i
  | 0, _ => rfl
  | n + 1, hn => by
    show (bif aAb S n w then zup (aBk S w n) (11 + 5 * n) 1 else aBk S w n) i = _
    cases aAb S n w
    · exact aBk_n h (by omega)
    · exact (zup_n (by omega)).trans (aBk_n h (by omega))
theorem aBk_s {S : zS} {w b : Nat} : ∀ {n : Nat}, aBk S w n (11 + 5 * b) = if b < n ∧ aAb S b w = true then 1 else S (11 + 5 * b)
  | 0 => by rw [if_neg (fun z => absurd z.1 (Nat.not_lt_zero _))]; rfl
  | n + 1 => by
    show (bif aAb S n w then zup (aBk S w n) (11 + 5 * n) 1 else aBk S w n) (11 + 5 * b) = _
    by_cases e : b = n
    · subst e
      cases hx : aAb S b w
      · rw [cond_false, aBk_s, if_neg (fun z => absurd z.1 (Nat.lt_irrefl _)), if_neg (fun z => by cases z.2)]
      · rw [cond_true, zup_s, if_pos ⟨Nat.lt_succ_self _, rfl⟩]
    · have e2 : (b < n + 1) = (b < n) := propext (by omega)
      cases aAb S n w
      · rw [cond_false, aBk_s]; simp only [e2]
      · rw [cond_true, zup_n (by omega), aBk_s]; simp only [e2]
def aDn (S : zS) (w : Nat) : Nat → zS
  | 0 => S
  | n + 1 => bif aAbI S (aSeat S n) w then aSit (aDn S w n) n (-1) else aDn S w n
def aCt (S : zS) (w : Nat) : Nat → Int
  | 0 => 0
  | n + 1 => bif aAbI S (aSeat S n) w then aCt S w n + 1 else aCt S w n
theorem aDn_n {S : zS} {w i : Nat} (h : i < 52 ∨ 76 ≤ i ∨ (i - 52) % 3 ≠ 2) : ∀ {n : Nat}, n ≤ 8 → aDn S w n i = S i
  | 0, _ => rfl
  | n + 1, hn => by
    show (bif aAbI S (aSeat S n) w then aSit (aDn S w n) n (-1) else aDn S w n) i = _
    cases aAbI S (aSeat S n) w
    · exact aDn_n h (by omega)
    · exact (aSit_n (by omega)).trans (aDn_n h (by omega))
theorem aDn_s {S : zS} {w p : Nat} : ∀ {n : Nat}, n ≤ p → aSeat (aDn S w n) p = aSeat S p
  | 0, _ => rfl
  | n + 1, hn => by
    show aSeat (bif aAbI S (aSeat S n) w then aSit (aDn S w n) n (-1) else aDn S w n) p = _
    cases aAbI S (aSeat S n) w
    · exact aDn_s (by omega)
    · exact (aSit_o (by omega)).trans (aDn_s (by omega))
theorem aCt_b {S : zS} {w : Nat} : ∀ (n : Nat), 0 ≤ aCt S w n ∧ aCt S w n ≤ n
  | 0 => ⟨by show (0 : Int) ≤ 0; omega, by show (0 : Int) ≤ ((0 : Nat) : Int); omega⟩
  | n + 1 => by
    have h := aCt_b (S := S) (w := w) n
    show 0 ≤ (bif _ then _ else _) ∧ (bif _ then _ else _) ≤ _
    cases aAbI S (aSeat S n) w
    · rw [cond_false]; omega
    · rw [cond_true]; omega
def aFal (S : zS) (w : Nat) : zS := aDn (aBk S w ((S 0).toNat)) w ((S 2).toNat)
def aFl : Nat → zS → zS × Int
  | 0, S => (S, 0)
  | n + 1, S => if aLst S (aSp S) ((S 0).toNat) < 0 ∨ 0 ≤ aSp S (aLst S (aSp S) ((S 0).toNat)).toNat then (S, 0) else ((aFl n (aFal S (aLst S (aSp S) ((S 0).toNat)).toNat)).1, (aFl n (aFal S (aLst S (aSp S) ((S 0).toNat)).toNat)).2 + aCt S (aLst S (aSp S) ((S 0).toNat)).toNat ((S 2).toNat))
theorem aFal_n {S : zS} {w i : Nat} (wa : wA S) (h : (i < 7 ∨ 52 ≤ i ∨ (i - 7) % 5 ≠ 4) ∧ (i < 52 ∨ 76 ≤ i ∨ (i - 52) % 3 ≠ 2)) : aFal S w i = S i := by
  have w1 := wa.1.2.1
  have p1 := wa.2.2.1.2.1
  exact (aDn_n h.2 (by omega)).trans (aBk_n h.1 (by omega))
theorem wA_bk {S : zS} (wa : wA S) {w n : Nat} (hn : n ≤ 9) : wA (aBk S w n) := by
  obtain ⟨wb, ww, wp, wr, wu, wz⟩ := wa
  have p1 := wp.2.1
  have e : ∀ i, (i < 7 ∨ 52 ≤ i ∨ (i - 7) % 5 ≠ 4) → aBk S w n i = S i := fun i h => aBk_n h hn
  refine ⟨wB_c wb (e 0 (by omega)) (fun i _ _ hi => e i (by omega)) (fun b hb => ?_), wW_c ww (e 4 (by omega)) (e 5 (by omega)), wP_c wp (e 2 (by omega)) (e 0 (by omega)) (fun i _ _ hi => e i (by omega)) (fun q hq => ?_), wR_c wr (e 3 (by omega)) (by rw [e 0 (by omega)]; exact Int.le_refl _) (fun i hi _ => e i (by omega)), wU_c wu (e 1 (by omega)) (fun i hi => e i (by omega)), by rw [e 6 (by omega)]; exact wz⟩
  · rw [aBk_s]
    have := wb.2.2 b hb
    split <;> omega
  · have := wp.2.2 q hq
    rw [e _ (by omega)]
    omega
theorem wA_dn {S : zS} (wa : wA S) {w : Nat} : ∀ {n : Nat}, n ≤ (S 2).toNat → wA (aDn S w n)
  | 0, _ => wa
  | n + 1, hn => by
    have ih := wA_dn wa (w := w) (n := n) (by omega)
    have p1 := wa.2.2.1.2.1
    have e2 : aDn S w n 2 = S 2 := aDn_n (by omega) (by omega)
    have e0 : aDn S w n 0 = S 0 := aDn_n (by omega) (by omega)
    have b0 := wa.1.1
    show wA (bif aAbI S (aSeat S n) w then aSit (aDn S w n) n (-1) else aDn S w n)
    cases aAbI S (aSeat S n) w
    · exact ih
    · exact aSit_w ih (by rw [e2]; omega) (by rw [e0]; omega)
theorem wA_fal {S : zS} (wa : wA S) {w : Nat} : wA (aFal S w) := by
  have b1 := wa.1.2.1
  have h := wA_bk wa (w := w) (n := (S 0).toNat) (by omega)
  refine wA_dn h ?_
  rw [aBk_n (i := 2) (by omega) (by omega)]
  exact Nat.le_refl _
theorem wA_fl : ∀ (n : Nat) {S : zS}, wA S → wA (aFl n S).1
  | 0, _, h => h
  | n + 1, S, h => by
    unfold aFl
    split
    · exact h
    · exact wA_fl n (wA_fal h)
