/-! span, liar: their answers -/
def rB (S : zS) (r : Nat) : Nat := (S (76 + 2 * r)).toNat
/-- from which weight on it cracks -/
def fCf (S : zS) (b : Nat) : Int := bif aCk S then 1 else aRoom S (aSp S) b + 1
def fL1 (S : zS) (r : Nat) (lo : Int) : Int := bif aBrk S (rB S r) then lo else if S (77 + 2 * r) = 1 then (if lo < fCf S (rB S r) then fCf S (rB S r) else lo) else lo
def fH1 (S : zS) (r : Nat) (hi : Int) : Int := bif aBrk S (rB S r) then 0 else if S (77 + 2 * r) = 1 then hi else (if fCf S (rB S r) - 1 < hi then fCf S (rB S r) - 1 else hi)
def fLo (S : zS) (a : Int) : Nat → Int
  | 0 => 1
  | n + 1 => if (n : Int) = a then fLo S a n else fL1 S n (fLo S a n)
def fHi (S : zS) (a : Int) : Nat → Int
  | 0 => 200
  | n + 1 => if (n : Int) = a then fHi S a n else fH1 S n (fHi S a n)
def fNo (S : zS) (a : Int) : Int := if 0 < fHi S a (S 3).toNat - fLo S a (S 3).toNat + 1 then fHi S a (S 3).toNat - fLo S a (S 3).toNat + 1 else 0
theorem fLH_n {S : zS} {a c : Int} (ha : a < 0) (hc : c < 0) : ∀ n : Nat, fLo S a n = fLo S c n ∧ fHi S a n = fHi S c n
  | 0 => ⟨rfl, rfl⟩
  | n + 1 => by
    have ih := fLH_n (S := S) ha hc n
    unfold fLo fHi
    rw [if_neg (by omega), if_neg (by omega), if_neg (by omega), if_neg (by omega), ih.1, ih.2]
    exact ⟨rfl, rfl⟩
theorem fNo_n {S : zS} {a c : Int} (ha : a < 0) (hc : c < 0) : fNo S a = fNo S c := by
  have h := fLH_n (S := S) ha hc (S 3).toNat
  unfold fNo
  rw [h.1, h.2]
theorem aRoom_b {S : zS} {b : Nat} (w : wA S) (hb : b < (S 0).toNat) : 0 ≤ aRoom S (aSp S) b ∧ aRoom S (aSp S) b ≤ 4096 := by
  obtain ⟨u, h1, h2, h3⟩ := aRm_at (S := S) (f := aSp S) (b := b) (S 0).toNat (Nat.le_refl _)
  have hu : u < (S 0).toNat := by rcases h1 with rfl | h1 <;> assumption
  have a1 := aHold_b w.1 w.2.1 w.2.2.2.2.1 hu
  have a2 := aBear_b w.1 w.2.1 w.2.2.1 hu
  have a3 : aSp S u = aHold S u - aBear S u := rfl
  unfold aRoom
  split <;> omega
theorem fCf_b {S : zS} {b : Nat} (w : wA S) (hb : b < (S 0).toNat) : 1 ≤ fCf S b ∧ fCf S b ≤ 4097 := by
  have h := aRoom_b w hb
  unfold fCf
  cases aCk S
  · rw [cond_false]; omega
  · rw [cond_true]; omega
theorem rB_l {S : zS} {r : Nat} (w : wA S) (hr : r < (S 3).toNat) : rB S r < (S 0).toNat ∧ S (76 + 2 * r) = (rB S r : Int) := by
  have h := w.2.2.2.1.2.2 r hr
  unfold rB
  omega
theorem fLH_b {S : zS} {a : Int} (w : wA S) : ∀ n, n ≤ (S 3).toNat → 1 ≤ fLo S a n ∧ fLo S a n ≤ 4097 ∧ 0 ≤ fHi S a n ∧ fHi S a n ≤ 200
  | 0, _ => by
    show 1 ≤ (1 : Int) ∧ (1 : Int) ≤ 4097 ∧ 0 ≤ (200 : Int) ∧ (200 : Int) ≤ 200
    omega
  | n + 1, hn => by
    have ih := fLH_b (a := a) w n (by omega)
    have c := fCf_b w (rB_l w (r := n) (by omega)).1
    unfold fLo fHi
    by_cases q : (n : Int) = a
    · rw [if_pos q, if_pos q]; exact ih
    · rw [if_neg q, if_neg q]
      unfold fL1 fH1
      cases aBrk S (rB S n)
      · rw [cond_false, cond_false]
        by_cases q2 : S (77 + 2 * n) = 1
        · rw [if_pos q2, if_pos q2]
          split <;> omega
        · rw [if_neg q2, if_neg q2]
          split <;> omega
      · rw [cond_true, cond_true]; omega
/-- the class's side -/
theorem zc43f {d r : Nat} {S : zS} {lo hi : Int} {σ : zM} (w : wA S) (h : cV S σ) (hr : r < (S 3).toNat) (hl : zrn lo) (hh : zrn hi) (h3 : σ.1 0 19 3 = iI lo) (h4 : σ.1 0 19 4 = iI hi) : ∃ τ, zev (d + 4) 43 [.inr (.inr (0, 19)), .inr (.inr (0, 0)), .inl (iI r)] σ = some (0, 0, τ) ∧ zFr W19 σ τ ∧ τ.1 0 19 3 = iI (fL1 S r lo) ∧ τ.1 0 19 4 = iI (fH1 S r hi) := by
  have b0 := w.1.1
  have b1 := w.1.2.1
  have r1 := w.2.2.2.1.2.1
  have wr := w.2.2.2.1.2.2 r hr
  have hR := h.1.2.2.2.2.1.2 r hr
  have rb := rB_l w hr
  have c := fCf_b w rb.1
  have hg : ∀ {y : zR}, zgd (zin (iI (r : Int)) 6) y = y := fun {y} => zgd_t (iI_ink (z := r) (k := r) rfl (by omega) (by decide))
  have hN : Int32.toNatClampNeg (iI (r : Int)) = r := iI_Nn (by omega)
  rw [rb.2] at hR
  have fin : ∀ (d1 d3 : Option zV), aBrk S (rB S r) = false → ∃ τ, zrun (zev (d + 3)) zT_43 45 [some (.inr (.inr (0, 19))), d1, some (.inl (iI r)), d3] [.inl (iI (fCf S (rB S r)))] σ = some (0, 0, τ) ∧ zFr W19 σ τ ∧ τ.1 0 19 3 = iI (fL1 S r lo) ∧ τ.1 0 19 4 = iI (fH1 S r hi) := by
    intro d1 d3 hb
    have e1 : (iI (S (77 + 2 * r)) = 1) = (S (77 + 2 * r) = 1) := iI_eq (b := 1) (by omega) (by decide)
    have m1 : iI (fCf S (rB S r)) - 1 = iI (fCf S (rB S r) - 1) := iI_s1 _
    unfold fL1 fH1
    rw [ez_43_45, hg, hb, cond_false, cond_false]
    simp only [hN, hR.2, e1, h3, h4, m1, zc272 (d := d + 2) hl (show zrn (fCf S (rB S r)) by omega), zc273 (d := d + 2) hh (show zrn (fCf S (rB S r) - 1) by omega), zbs]
    by_cases q : S (77 + 2 * r) = 1
    · rw [if_pos q, if_pos q, if_pos q]
      exact ⟨_, rfl, zFr_w (by omega), zfs, by rw [zfe (by omega)]; exact h4⟩
    · rw [if_neg q, if_neg q, if_neg q]
      exact ⟨_, rfl, zFr_w (by omega), by rw [zfe (by omega)]; exact h3, zfs⟩
  have e14 : zev (d + 3) 14 [.inr (.inr (0, 1)), .inl (iI (rB S r : Nat))] σ = some (zB (!aBrk S (rB S r)), 0, σ) := by
    have := zc14 (d := d + 1) (z := (rB S r : Int)) h.1.1 h.1.2.1 w.1 (by omega)
    rw [decide_eq_true (by omega), Bool.true_and, Int.toNat_natCast] at this
    exact this
  rw [ez_43]
  simp only [hg, hN, hR.1, e14, zbs, zBi, zc29 (d := d) h.1.1 h.1.2.1 w.1 h.2 (aSp_r w), zCk, zc32 (d := d) h.1.1 w.1 h.2 (aSp_r w) rb.1]
  cases qb : aBrk S (rB S r)
  · rw [Bool.not_false, cond_true]
    cases qc : aCk S
    · rw [cond_false, iI_a1]
      have e : fCf S (rB S r) = aRoom S (aSp S) (rB S r) + 1 := by unfold fCf; rw [qc]; rfl
      rw [← e]
      exact fin _ _ qb
    · rw [cond_true]
      have e : fCf S (rB S r) = 1 := by unfold fCf; rw [qc]; rfl
      have f := fin (some (.inr (.inr (0, 0)))) none qb
      rw [e] at f
      exact f
  · rw [Bool.not_true, cond_false]
    unfold fL1 fH1
    rw [qb, cond_true, cond_true]
    exact ⟨_, rfl, zFr_w (by omega), by rw [zfe (by omega)]; exact h3, zfs⟩
theorem zc42f {d : Nat} {S : zS} {σ : zM} {a : Int} (w : wA S) (h : cV S σ) (ha : zrn a) : ∃ τ, zev (d + 5) 42 [.inr (.inr (0, 19)), .inr (.inr (0, 0)), .inl (iI a)] σ = some (0, 0, τ) ∧ zFr W19 σ τ ∧ τ.1 0 19 3 = iI (fLo S a (S 3).toNat) ∧ τ.1 0 19 4 = iI (fHi S a (S 3).toNat) := by
  have r0 := w.2.2.2.1.1
  have r1 := w.2.2.2.1.2.1
  have key : ∀ (m k : Nat) (σ : zM), k + m = (S 3).toNat → cV S σ → σ.1 0 19 3 = iI (fLo S a k) → σ.1 0 19 4 = iI (fHi S a k) → ∃ τ, zrun (zev (d + 4)) zT_42 14 [some (.inr (.inr (0, 19))), some (.inr (.inr (0, 0))), some (.inl (iI a)), some (.inl (iI k))] [] σ = some (0, 0, τ) ∧ zFr W19 σ τ ∧ τ.1 0 19 3 = iI (fLo S a (S 3).toNat) ∧ τ.1 0 19 4 = iI (fHi S a (S 3).toNat) := by
    intro m
    induction m with
    | zero =>
      intro k σ hk h h3 h4
      rw [ez_42_14, h.1.2.2.2.2.1.1, if_neg (by rw [iI_lt (by omega) (by omega)]; omega)]
      rw [show k = (S 3).toNat by omega] at h3 h4
      exact ⟨σ, rfl, zFr_r σ, h3, h4⟩
    | succ m ih =>
      intro k σ hk h h3 h4
      have b := fLH_b (a := a) w k (by omega)
      have eq : (iI (k : Int) = iI a) = ((k : Int) = a) := iI_eq (by omega) ha
      have eL : fLo S a (k + 1) = if (k : Int) = a then fLo S a k else fL1 S k (fLo S a k) := rfl
      have eH : fHi S a (k + 1) = if (k : Int) = a then fHi S a k else fH1 S k (fHi S a k) := rfl
      rw [ez_42_14, h.1.2.2.2.2.1.1, if_pos (by rw [iI_lt (by omega) (by omega)]; omega)]
      simp only [eq, hki1]
      by_cases q : (k : Int) = a
      · rw [if_pos q]
        rw [if_pos q] at eL eH
        exact ih (k + 1) σ (by omega) h (by rw [eL]; exact h3) (by rw [eH]; exact h4)
      · rw [if_neg q]
        rw [if_neg q] at eL eH
        obtain ⟨τ, g1, g2, g3, g4⟩ := zc43f (d := d) w h (show k < (S 3).toNat by omega) (by omega) (by omega) h3 h4
        obtain ⟨υ, y1, y2, y3⟩ := ih (k + 1) τ (by omega) (cV_f h g2) (by rw [eL]; exact g3) (by rw [eH]; exact g4)
        simp only [g1, zbs]
        exact ⟨υ, y1, zFr_tt g2 y2, y3⟩
  have f0 : zFr W19 σ (zwI (zwI σ 0 19 3 1) 0 19 4 200) := zFr_tt (zFr_w (by omega)) (zFr_w (by omega))
  obtain ⟨υ, y1, y2, y3⟩ := key (S 3).toNat 0 _ (by omega) (cV_f h f0) (by rw [zfe (by omega), zfs]; rfl) (by rw [zfs]; rfl)
  rw [ez_42]
  exact ⟨υ, y1, zFr_tt f0 y2, y3⟩
theorem zc44f {d : Nat} {S : zS} {a : Int} {σ : zM} (w : wA S) (h3 : σ.1 0 19 3 = iI (fLo S a (S 3).toNat)) (h4 : σ.1 0 19 4 = iI (fHi S a (S 3).toNat)) : zev (d + 2) 44 [.inr (.inr (0, 19))] σ = some (iI (fNo S a), 0, σ) := by
  have b := fLH_b (a := a) w (S 3).toNat (Nat.le_refl _)
  have e := zc272 (d := d) (a := 0) (b := fHi S a (S 3).toNat - fLo S a (S 3).toNat + 1) (σ := σ) (by decide) (by omega)
  have e : zev (d + 1) 272 [.inl 0, .inl (iI (fHi S a (S 3).toNat - fLo S a (S 3).toNat + 1))] σ = _ := e
  rw [ez_44, h3, h4]
  simp only [iI_sub, iI_a1, e, zbs]
  rfl
/-- what grows on a broken one -/
theorem wK_ab {S : zS} (k : wK S) (w : wB S) {u : Nat} (hu : aBrk S u = true) : ∀ (n c : Nat), c < n → c < (S 0).toNat → aAb S c u = true → aBrk S c = true
  | 0, _, h, _, _ => absurd h (Nat.not_lt_zero _)
  | n + 1, c, h, hc, ha => by
    rw [aAb_u w hc, Bool.or_eq_true] at ha
    rcases ha with ha | ha
    · rw [Nat.eq_of_beq_eq_true ha]; exact hu
    · have w2 := w.2.2 c hc
      by_cases q : 1 ≤ S (8 + 5 * c)
      · obtain ⟨p, hp⟩ := zint (show 0 ≤ S (8 + 5 * c) - 1 by omega)
        rw [show aPar S c = (p : Int) from hp, aAbI_p] at ha
        have ih := wK_ab k w hu n p (by omega) (by omega) ha
        have ih : S (11 + 5 * p) = 1 := of_decide_eq_true ih
        refine decide_eq_true (k c hc q ?_)
        rw [hp, Int.toNat_natCast]
        exact ih
      · rw [aAbI_n (show aPar S c < 0 by show S (8 + 5 * c) - 1 < 0; omega)] at ha
        cases ha
/-- any of them cracks -/
def aAny (p : Nat → Bool) : Nat → Nat → Bool
  | 0, _ => false
  | m + 1, k => p k || aAny p m (k + 1)
theorem aAny_i {p : Nat → Bool} : ∀ (m k : Nat), aAny p m k = true ↔ ∃ i, k ≤ i ∧ i < k + m ∧ p i = true
  | 0, k => ⟨fun h => (by cases h), fun ⟨i, h1, h2, _⟩ => (by omega)⟩
  | m + 1, k => by
    show (p k || aAny p m (k + 1)) = true ↔ _
    rw [Bool.or_eq_true, aAny_i m (k + 1)]
    constructor
    · rintro (h | ⟨i, h1, h2, h3⟩)
      · exact ⟨k, Nat.le_refl _, by omega, h⟩
      · exact ⟨i, by omega, by omega, h3⟩
    · rintro ⟨i, h1, h2, h3⟩
      by_cases e : i = k
      · rw [e] at h3; exact Or.inl h3
      · exact Or.inr ⟨i, by omega, by omega, h3⟩
def fW (S : zS) (b : Nat) (W : Int) (u : Nat) : Int := aHold S u - (aBear S u + bif aAbI S b u then W else 0)
theorem aCk_x {S : zS} (w : wA S) : aCk S = true ↔ ∃ u, u < (S 0).toNat ∧ aSp S u < 0 ∧ aBrk S u = false := by
  have b1 := w.1.2.1
  unfold aCk
  simp only [zcr_0 (show (S 0).toNat ≤ 32 by omega)]
  constructor
  · intro h
    rw [Bool.not_eq_true', decide_eq_false_iff_not] at h
    obtain ⟨u, hu⟩ := Classical.not_forall.mp h
    obtain ⟨h1, h2⟩ := Classical.not_imp.mp hu
    have h3 : aCr S (aSp S) u = true := by cases q : aCr S (aSp S) u with | false => exact absurd q h2 | true => rfl
    unfold aCr at h3
    rw [Bool.and_eq_true, Bool.not_eq_true'] at h3
    exact ⟨u, h1, of_decide_eq_true h3.1, h3.2⟩
  · rintro ⟨u, h1, h2, h3⟩
    rw [Bool.not_eq_true', decide_eq_false_iff_not]
    intro h
    have := h u h1
    unfold aCr at this
    rw [h3, decide_eq_true h2] at this
    cases this
theorem fW_i {S : zS} {b : Nat} {W : Int} (w : wA S) (k : wK S) (hb : b < (S 0).toNat) (hbr : aBrk S b = false) (hW : 1 ≤ W) : aAny (aCr S (fW S b W)) (S 0).toNat 0 = decide (fCf S b ≤ W) := by
  have b1 := w.1.2.1
  have hsp : ∀ u, aSp S u = aHold S u - aBear S u := fun _ => rfl
  have fw : ∀ u, fW S b W u = aSp S u - (bif aAb S b u then W else 0) := fun u => by
    unfold fW
    rw [aAbI_p, hsp]
    omega
  have cr : ∀ u, aCr S (fW S b W) u = true ↔ fW S b W u < 0 ∧ aBrk S u = false := fun u => by
    unfold aCr
    rw [Bool.and_eq_true, Bool.not_eq_true', decide_eq_true_iff]
  rw [Bool.eq_iff_iff, aAny_i, decide_eq_true_iff]
  cases qc : aCk S
  · have hc : fCf S b = aRoom S (aSp S) b + 1 := by unfold fCf; rw [qc]; rfl
    have nn : ∀ u, u < (S 0).toNat → aBrk S u = false → 0 ≤ aSp S u := fun u h1 h2 => by
      by_cases q : aSp S u < 0
      · rw [(aCk_x w).mpr ⟨u, h1, q, h2⟩] at qc; cases qc
      · omega
    rw [hc]
    constructor
    · rintro ⟨u, -, h1, h2⟩
      obtain ⟨h3, h4⟩ := (cr u).mp h2
      have h5 := nn u (by omega) h4
      rw [fw] at h3
      cases qa : aAb S b u
      · rw [qa, cond_false] at h3; omega
      · rw [qa, cond_true] at h3
        have h6 := aRm_le (f := aSp S) (n := (S 0).toNat) (show u < (S 0).toNat by omega) qa
        unfold aRoom
        split <;> omega
    · intro h
      obtain ⟨u, h1, h2, h3⟩ := aRm_at (S := S) (f := aSp S) (b := b) (S 0).toNat (Nat.le_refl _)
      have hu : u < (S 0).toNat := by rcases h1 with rfl | h1 <;> assumption
      have hbu : aBrk S u = false := by
        cases q : aBrk S u with
        | false => rfl
        | true => rw [wK_ab k w.1 q 9 b (by omega) hb h2] at hbr; cases hbr
      have h5 := nn u hu hbu
      refine ⟨u, Nat.zero_le _, by omega, (cr u).mpr ⟨?_, hbu⟩⟩
      rw [fw, h2, cond_true]
      unfold aRoom at h
      split at h <;> omega
  · have hc : fCf S b = 1 := by unfold fCf; rw [qc]; rfl
    rw [hc]
    refine ⟨fun _ => hW, fun _ => ?_⟩
    obtain ⟨u, h1, h2, h3⟩ := (aCk_x w).mp qc
    refine ⟨u, Nat.zero_le _, by omega, (cr u).mpr ⟨?_, h3⟩⟩
    rw [fw]
    cases aAb S b u
    · rw [cond_false]; omega
    · rw [cond_true]; omega
/-- whether a weight fits the first n reports but a -/
def fOk (S : zS) (a W : Int) : Nat → Bool
  | 0 => true
  | n + 1 => fOk S a W n && (decide ((n : Int) = a) || (!aBrk S (rB S n) && (decide (fCf S (rB S n) ≤ W) == decide (S (77 + 2 * n) = 1))))
theorem bq_t : ∀ b : Bool, (b == true) = b := by decide
theorem bq_f : ∀ b : Bool, (b == false) = !b := by decide
theorem fOk_i {S : zS} {a W : Int} (hW : 1 ≤ W ∧ W ≤ 200) : ∀ n, fOk S a W n = decide (fLo S a n ≤ W ∧ W ≤ fHi S a n)
  | 0 => (decide_eq_true (show (1 : Int) ≤ W ∧ W ≤ 200 from hW)).symm
  | n + 1 => by
    have ih := fOk_i (S := S) (a := a) hW n
    have e : fOk S a W (n + 1) = (fOk S a W n && (decide ((n : Int) = a) || (!aBrk S (rB S n) && (decide (fCf S (rB S n) ≤ W) == decide (S (77 + 2 * n) = 1))))) := rfl
    have eL : fLo S a (n + 1) = if (n : Int) = a then fLo S a n else fL1 S n (fLo S a n) := rfl
    have eH : fHi S a (n + 1) = if (n : Int) = a then fHi S a n else fH1 S n (fHi S a n) := rfl
    rw [e, ih, eL, eH]
    by_cases q : (n : Int) = a
    · rw [if_pos q, if_pos q, decide_eq_true q, Bool.true_or, Bool.and_true]
    · rw [if_neg q, if_neg q, decide_eq_false q, Bool.false_or]
      unfold fL1 fH1
      cases aBrk S (rB S n)
      · rw [cond_false, cond_false, Bool.not_false, Bool.true_and]
        by_cases q2 : S (77 + 2 * n) = 1
        · rw [if_pos q2, if_pos q2, decide_eq_true q2, bq_t, ← Bool.decide_and]
          refine decide_eq_decide.mpr ?_
          split <;> omega
        · rw [if_neg q2, if_neg q2, decide_eq_false q2, bq_f, ← decide_not, ← Bool.decide_and]
          refine decide_eq_decide.mpr ?_
          split <;> omega
      · rw [cond_true, cond_true, Bool.not_true, Bool.false_and, Bool.and_false]
        exact (decide_eq_false (by omega)).symm
theorem fOk_f {S : zS} {a W : Int} {r : Nat} (h : fOk S a W r = false) : ∀ n, fOk S a W (r + n) = false
  | 0 => h
  | n + 1 => by
    show (fOk S a W (r + n) && _) = false
    rw [fOk_f h n, Bool.false_and]
