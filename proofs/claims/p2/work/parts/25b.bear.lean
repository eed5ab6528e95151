abbrev fR (S : zS) (f : Nat → Int) : Prop := ∀ b, b < (S 0).toNat → -100000 ≤ f b ∧ f b ≤ 100000
def aSp (S : zS) (b : Nat) : Int := aHold S b - aBear S b
theorem aBear_b {S : zS} {b : Nat} (w : wB S) (v : wW S) (q : wP S) (hb : b < (S 0).toNat) : 0 ≤ aBear S b ∧ aBear S b ≤ 1681 := by
  have h := aBw_b (n := (S 2).toNat) w v q hb (Nat.le_refl _)
  have q1 := q.2.1
  rw [aBw_e] at h
  omega
theorem aSp_r {S : zS} (w : wA S) : fR S (aSp S) := by
  intro b hb
  have h1 := aBear_b w.1 w.2.1 w.2.2.1 hb
  have h2 := aHold_b w.1 w.2.1 w.2.2.2.2.1 hb
  unfold aSp
  omega
theorem hki1 {k : Nat} : iI (k : Int) + 1 = iI ((k + 1 : Nat) : Int) := by rw [iI_a1]; congr 1 <;> omega
theorem zc27 {d g : Nat} {S : zS} {σ : zM} (hA : cA g S σ) (w : wA S) : ∃ τ, zev (d + 5) 27 [.inr (.inr (g, 0))] σ = some (0, 0, τ) ∧ zFr (Ws g) σ τ ∧ cS g S (aSp S) τ := by
  obtain ⟨wb, ww, wp, wr, wu, wz⟩ := w
  have w0 := wb.1
  have w1 := wb.2.1
  have key : ∀ n k (τ0 : zM), k + n = (S 0).toNat → zFr (Ws g) σ τ0 → (∀ b, b < k → τ0.1 g 22 b = iI (aSp S b)) → ∃ τ, zrun (zev (d + 4)) zT_27 2 [some (.inr (.inr (g, 0))), some (.inl (iI k))] [] τ0 = some (0, 0, τ) ∧ zFr (Ws g) σ τ ∧ cS g S (aSp S) τ := by
    intro n
    induction n with
    | zero =>
      intro k τ0 hk f hs
      have hA0 := cA_s hA f
      rw [ez_27_2, hA0.1.1, if_neg (by rw [iI_lt (by omega) (by omega)]; omega)]
      exact ⟨τ0, rfl, f, fun b hb => hs b (by omega)⟩
    | succ n ih =>
      intro k τ0 hk f hs
      have hA0 := cA_s hA f
      obtain ⟨τ1, c1, c2⟩ := zc16 (d := d) (b := k) hA0.1 hA0.2.2.1 hA0.2.2.2.2.2.1 wb ww wu (by omega)
      have f1 : zFr (Ws g) σ τ1 := zFr_tt f (zFr_i c2 (fun _ _ _ q => ⟨q.1, by omega⟩))
      have hA1 := cA_s hA f1
      rw [ez_27_2, hA0.1.1, if_pos (by rw [iI_lt (by omega) (by omega)]; omega), c1]
      simp only [zbs, zc26 (d := d + 1) hA1.1 hA1.2.2.1 hA1.2.2.2.1 wb ww wp (show k < (S 0).toNat by omega), zgd_t (iI_ink (z := k) (k := k) rfl (show k < 9 by omega) (by decide)), iI_Nn (show k ≤ 2147483647 by omega), hki1, iI_sub]
      refine ih (k + 1) _ (by omega) (zFr_tt f1 (zFr_w ⟨rfl, by omega⟩)) (fun b hb => ?_)
      by_cases e : b = k
      · subst e; exact zfs
      · rw [zfe (fun z => e z.2.2), c2.1 _ _ _ (by omega)]
        exact hs b (by omega)
  rw [ez_27]
  exact key ((S 0).toNat) 0 σ (by omega) (zFr_r σ) (fun b hb => absurd hb (Nat.not_lt_zero _))
def aLd (S : zS) (f : Nat → Int) (z w : Int) : Nat → Int := fun u => f u - (bif aAbI S z u then w else 0)
theorem zc28 {d g : Nat} {S : zS} {σ : zM} {f : Nat → Int} {z x : Int} (hB : cB g S σ) (w : wB S) (hs : cS g S f σ) (hz : -1 ≤ z ∧ z < S 0) : ∃ τ, zev (d + 3) 28 [.inr (.inr (g, 0)), .inl (iI (cE z)), .inl (iI x)] σ = some (0, 0, τ) ∧ zFr (Wk g 22) σ τ ∧ cS g S (aLd S f z x) τ := by
  have w0 := w.1
  have w1 := w.2.1
  have key : ∀ n k (τ0 : zM), k + n = (S 0).toNat → zFr (Wk g 22) σ τ0 → (∀ b, b < (S 0).toNat → τ0.1 g 22 b = iI (if b < k then aLd S f z x b else f b)) → ∃ τ, zrun (zev (d + 2)) zT_28 2 [some (.inr (.inr (g, 0))), some (.inl (iI (cE z))), some (.inl (iI x)), some (.inl (iI k))] [] τ0 = some (0, 0, τ) ∧ zFr (Wk g 22) σ τ ∧ cS g S (aLd S f z x) τ := by
    intro n
    induction n with
    | zero =>
      intro k τ0 hk f0 hs0
      have hB0 : cB g S τ0 := cB_f hB fun k _ _ => zFr_f f0 (fun i => by omega)
      rw [ez_28_2, hB0.1, if_neg (by rw [iI_lt (by omega) (by omega)]; omega)]
      exact ⟨τ0, rfl, f0, fun b hb => by rw [hs0 b hb, if_pos (by omega)]⟩
    | succ n ih =>
      intro k τ0 hk f0 hs0
      have hB0 : cB g S τ0 := cB_f hB fun k _ _ => zFr_f f0 (fun i => by omega)
      rw [ez_28_2, hB0.1, if_pos (by rw [iI_lt (by omega) (by omega)]; omega), zc15 hB0 ⟨w0, w1⟩ hz (show k < 9 by omega)]
      simp only [zbs, zBi, zgd_t (iI_ink (z := k) (k := k) rfl (show k < 9 by omega) (by decide)), iI_Nn (show k ≤ 2147483647 by omega), hki1, hs0 k (by omega)]
      have hlk : aLd S f z x k = f k - (bif aAbI S z k then x else 0) := rfl
      cases hh : aAbI S z k
      · rw [hh] at hlk
        simp only [cond_false] at hlk ⊢
        refine ih (k + 1) τ0 (by omega) f0 (fun b hb => ?_)
        rw [hs0 b hb]
        by_cases e : b = k
        · subst e; rw [if_neg (Nat.lt_irrefl _), if_pos (Nat.lt_succ_self _), hlk, Int.sub_zero]
        · by_cases e2 : b < k
          · rw [if_pos e2, if_pos (by omega)]
          · rw [if_neg e2, if_neg (by omega)]
      · rw [hh] at hlk
        simp only [cond_true] at hlk ⊢
        rw [if_neg (Nat.lt_irrefl _), iI_sub]
        refine ih (k + 1) _ (by omega) (zFr_tt f0 (zFr_w ⟨rfl, rfl⟩)) (fun b hb => ?_)
        by_cases e : b = k
        · subst e; rw [zfs, if_pos (Nat.lt_succ_self _), hlk]
        · rw [zfe (fun q => e q.2.2), hs0 b hb]
          by_cases e2 : b < k
          · rw [if_pos e2, if_pos (by omega)]
          · rw [if_neg e2, if_neg (by omega)]
  rw [ez_28]
  exact key ((S 0).toNat) 0 σ (by omega) (zFr_r σ) (fun b hb => by rw [hs b hb, if_neg (Nat.not_lt_zero _)])
def zcr (p : Nat → Bool) : Nat → Int32
  | 0 => 0
  | n + 1 => bif p n then zcr p n ||| (1 <<< (iI n &&& 31)) else zcr p n
theorem zcr_c {p q : Nat → Bool} : ∀ {n : Nat}, (∀ i, i < n → p i = q i) → zcr p n = zcr q n
  | 0, _ => rfl
  | n + 1, h => by
    show (bif p n then _ else _) = (bif q n then _ else _)
    rw [zcr_c (fun i hi => h i (by omega)), h n (by omega)]
theorem zcr_b {p : Nat → Bool} : ∀ (n : Nat), n ≤ 32 → ∀ i, i < 32 → bt (zcr p n) i = (decide (i < n) && p i)
  | 0, _, i, _ => by rw [decide_eq_false (Nat.not_lt_zero _), Bool.false_and]; exact b_0 i
  | n + 1, hn, i, hi => by
    have h := zcr_b (p := p) n (by omega) i hi
    have b1 : ∀ i, i < 32 → bt 1 i = decide (i = 0) := by decide +kernel
    have hs : bt (1 <<< (iI n &&& 31)) i = decide (i = n) := by
      rw [← nI_iI, b_shl n (by omega) 1 hi]
      by_cases q : n ≤ i
      · rw [decide_eq_true q, Bool.true_and, b1 _ (by omega)]
        exact zdec (by omega)
      · rw [decide_eq_false q, Bool.false_and, decide_eq_false (by omega)]
    show bt (bif p n then _ else _) i = _
    by_cases e : i = n
    · subst e
      rw [decide_eq_true (Nat.lt_succ_self _), Bool.true_and]
      rw [decide_eq_false (Nat.lt_irrefl _), Bool.false_and] at h
      cases hp : p i
      · rw [cond_false, h]
      · rw [cond_true, b_or, h, hs, decide_eq_true rfl]; rfl
    · rw [zdec (show i < n + 1 ↔ i < n by omega)]
      cases hp : p n
      · rw [cond_false, h]
      · rw [cond_true, b_or, h, hs, decide_eq_false e, Bool.or_false]
theorem zcr_0 {p : Nat → Bool} {n : Nat} (hn : n ≤ 32) : (zcr p n = 0) = (∀ i, i < n → p i = false) := by
  refine propext ⟨fun h i hi => ?_, fun h => ?_⟩
  · have := zcr_b (p := p) n hn i (by omega)
    rw [h, b_0, decide_eq_true hi, Bool.true_and] at this
    exact this.symm
  · refine b_ext fun i hi => ?_
    rw [zcr_b n hn i hi, b_0]
    by_cases q : i < n
    · rw [h i q, Bool.and_false]
    · rw [decide_eq_false q, Bool.false_and]
def aCr (S : zS) (f : Nat → Int) (b : Nat) : Bool := decide (f b < 0) && !aBrk S b
theorem zc29 {d g : Nat} {S : zS} {σ : zM} {f : Nat → Int} (hB : cB g S σ) (hK : cK g S σ) (w : wB S) (hs : cS g S f σ) (hf : fR S f) : zev (d + 3) 29 [.inr (.inr (g, 0))] σ = some (zcr (aCr S f) ((S 0).toNat), 0, σ) := by
  have w0 := w.1
  have w1 := w.2.1
  have key : ∀ i, i ≤ (S 0).toNat → zrun (zev (d + 2)) zT_29 4 [some (.inr (.inr (g, 0))), some (.inl (zcr (aCr S f) i)), some (.inl (iI i))] [] σ = some (zcr (aCr S f) ((S 0).toNat), 0, σ) := by
    intro i hi
    refine zloop (n := (S 0).toNat) (P := fun i => zrun (zev (d + 2)) zT_29 4 [some (.inr (.inr (g, 0))), some (.inl (zcr (aCr S f) i)), some (.inl (iI i))] [] σ = some (zcr (aCr S f) ((S 0).toNat), 0, σ)) ?_ ?_ hi
    · rw [ez_29_4, hB.1, if_neg (by rw [iI_lt (by omega) (by omega)]; omega)]
    · intro i hi ih
      have hr := hf i hi
      have e : zcr (aCr S f) (i + 1) = bif aCr S f i then zcr (aCr S f) i ||| (1 <<< (iI i &&& 31)) else zcr (aCr S f) i := rfl
      rw [ez_29_4, hB.1, if_pos (by rw [iI_lt (by omega) (by omega)]; omega)]
      simp only [zgd_t (iI_ink (z := i) (k := i) rfl (show i < 9 by omega) (by decide)), iI_Nn (show i ≤ 2147483647 by omega), hs i hi, iI_lt0 (show zrn (f i) by omega), hki1]
      rw [show aCr S f i = (decide (f i < 0) && !aBrk S i) from rfl] at e
      by_cases q : f i < 0
      · rw [if_pos q, zc14 hB hK w (by omega)]
        simp only [zbs, zBi, Int.toNat_natCast, decide_eq_true (show (0 : Int) ≤ i ∧ (i : Int) < S 0 by omega), Bool.true_and]
        rw [decide_eq_true q, Bool.true_and] at e
        cases hh : aBrk S i
        · rw [hh] at e
          simp only [Bool.not_false, cond_true] at e ⊢
          rw [← e]; exact ih
        · rw [hh] at e
          simp only [Bool.not_true, cond_false] at e ⊢
          rw [← e]; exact ih
      · rw [if_neg q]
        rw [decide_eq_false q, Bool.false_and, cond_false] at e
        rw [← e]; exact ih
  rw [ez_29]
  exact key 0 (by omega)
def aLst (S : zS) (f : Nat → Int) : Nat → Int
  | 0 => -1
  | n + 1 => if aBrk S n = false ∧ (aLst S f n < 0 ∨ f n < f (aLst S f n).toNat) then (n : Int) else aLst S f n
theorem aLst_r {S : zS} {f : Nat → Int} : ∀ (n : Nat), -1 ≤ aLst S f n ∧ aLst S f n < n
  | 0 => ⟨by show -1 ≤ (-1 : Int); omega, by show (-1 : Int) < ((0 : Nat) : Int); omega⟩
  | n + 1 => by
    have h := aLst_r (S := S) (f := f) n
    show -1 ≤ (if _ then _ else _) ∧ (if _ then _ else _) < _
    split <;> omega
theorem zc31 {d g : Nat} {S : zS} {σ : zM} {f : Nat → Int} (hB : cB g S σ) (hK : cK g S σ) (w : wB S) (hs : cS g S f σ) (hf : fR S f) : zev (d + 3) 31 [.inr (.inr (g, 0))] σ = some (iI (cE (aLst S f ((S 0).toNat))), 0, σ) := by
  have w0 := w.1
  have w1 := w.2.1
  have key : ∀ i, i ≤ (S 0).toNat → zrun (zev (d + 2)) zT_31 5 [some (.inr (.inr (g, 0))), some (.inl (iI (cE (aLst S f i)))), some (.inl (iI i))] [] σ = some (iI (cE (aLst S f ((S 0).toNat))), 0, σ) := by
    intro i hi
    refine zloop (n := (S 0).toNat) (P := fun i => zrun (zev (d + 2)) zT_31 5 [some (.inr (.inr (g, 0))), some (.inl (iI (cE (aLst S f i)))), some (.inl (iI i))] [] σ = some (iI (cE (aLst S f ((S 0).toNat))), 0, σ)) ?_ ?_ hi
    · rw [ez_31_5, hB.1, if_neg (by rw [iI_lt (by omega) (by omega)]; omega)]
    · intro i hi ih
      have hr := hf i hi
      have hl := aLst_r (S := S) (f := f) i
      have hcz : zrn (cE (aLst S f i)) := by unfold cE; split <;> omega
      have e : aLst S f (i + 1) = if aBrk S i = false ∧ (aLst S f i < 0 ∨ f i < f (aLst S f i).toNat) then (i : Int) else aLst S f i := rfl
      have hci : cE (i : Int) = i := if_neg (by omega)
      rw [ez_31_5, hB.1, if_pos (by rw [iI_lt (by omega) (by omega)]; omega), zc14 hB hK w (by omega)]
      simp only [zbs, zBi, Int.toNat_natCast, decide_eq_true (show (0 : Int) ≤ i ∧ (i : Int) < S 0 by omega), Bool.true_and, hki1, iI_n9 hcz]
      cases hh : aBrk S i
      · simp only [Bool.not_false, cond_true]
        by_cases q : aLst S f i < 0
        · rw [if_pos (⟨hh, Or.inl q⟩ : aBrk S i = false ∧ _)] at e
          rw [if_pos (show cE (aLst S f i) = -9 from if_pos q)]
          rw [e, hci] at ih
          exact ih
        · have hce : cE (aLst S f i) = aLst S f i := if_neg q
          rw [if_neg (by rw [hce]; omega), hce]
          obtain ⟨m, hm⟩ := zint (show 0 ≤ aLst S f i by omega)
          rw [hm] at e hl hce ⊢
          have hr2 := hf m (by omega)
          simp only [zgd_t (iI_ink (z := i) (k := i) rfl (show i < 9 by omega) (by decide)), iI_Nn (show i ≤ 2147483647 by omega), zgd_t (iI_ink (z := m) (k := m) rfl (show m < 9 by omega) (by decide)), iI_Nn (show m ≤ 2147483647 by omega), hs i hi, hs m (by omega), iI_lt (show zrn (f i) by omega) (show zrn (f m) by omega)]
          rw [Int.toNat_natCast] at e
          by_cases q2 : f i < f m
          · rw [if_pos (⟨hh, Or.inr q2⟩ : aBrk S i = false ∧ _)] at e
            rw [if_pos q2]
            rw [e, hci] at ih
            exact ih
          · rw [if_neg (fun z => z.2.elim (fun y => by omega) q2)] at e
            rw [if_neg q2]
            rw [e, hce] at ih
            exact ih
      · simp only [Bool.not_true, cond_false]
        rw [if_neg (fun z => by rw [hh] at z; cases z.1)] at e
        rw [e] at ih
        exact ih
  rw [ez_31]
  exact key 0 (by omega)
