theorem zm189_2 {d w : Nat} {S : zS} {σ : zM} (hS : mS 61 S σ) (wb : wB S) (hw : w < 9) : ∀ (n : Nat) (z : Int) (d1 : Option zV), z < n → z < S 0 → -1 ≤ z → zrun (zev (d + 3)) zT_189 2 [some (.inr (.inr (0, 60))), d1, some (.inl (iI w)), some (.inl (iI z))] [] σ = some (zB (aAbI S z w), 0, σ)
  | 0, z, d1, hz, hz0, hz1 => by
    rw [ez_189_2, if_pos (by rw [iI_lt0 (by omega)]; omega), if_neg (by rw [iI_eq (by omega) (by omega)]; omega), aAbI_n (by omega)]
    exact zgd_t rfl
  | n + 1, z, d1, hz, hz0, hz1 => by
    have w1 := wb.2.1
    by_cases q : z < 0
    · rw [ez_189_2, if_pos (by rw [iI_lt0 (by omega)]; omega), if_neg (by rw [iI_eq (by omega) (by omega)]; omega), aAbI_n q]
      exact zgd_t rfl
    · obtain ⟨c, rfl⟩ := zint (show 0 ≤ z by omega)
      have w2 := wb.2.2 c (by omega)
      have hp : aPar S c < c ∧ -1 ≤ aPar S c := by unfold aPar; omega
      rw [ez_189_2, if_neg (by rw [iI_lt0 (by omega)]; omega), aAbI_p, aAb_u wb (by omega)]
      by_cases e : c = w
      · subst e
        rw [if_pos rfl, if_pos rfl, Nat.beq_refl]
        exact zgd_t rfl
      · have hb' : Nat.beq c w = false := by
          cases hx : Nat.beq c w
          · rfl
          · exact absurd (Nat.eq_of_beq_eq_true hx) e
        rw [if_neg (by rw [iI_eq (by omega) (by omega)]; omega), zm158 (d := d) hS (show c < 9 by omega), hb', Bool.false_or]
        simp only [zbs]
        exact zm189_2 hS wb hw n (aPar S c) none (by omega) (by omega) (by omega)
theorem zm189 {d w : Nat} {z : Int} {S : zS} {σ : zM} (hS : mS 61 S σ) (wb : wB S) (hw : w < 9) (hz : -1 ≤ z ∧ z < S 0) : zev (d + 4) 189 [.inr (.inr (0, 60)), .inl (iI z), .inl (iI w)] σ = some (zB (aAbI S z w), 0, σ) := by
  have w1 := wb.2.1
  rw [ez_189]
  exact zm189_2 hS wb hw 9 z _ (by omega) hz.2 hz.1
theorem mF_sp {S : zS} {σ : zM} (wa : wA S) (h1 : mR 65 S (aHold S) σ) (h2 : mR 66 S (aBear S) σ) : mF S (aSp S) σ :=
  ⟨aHold S, aBear S, h1, h2, fun b hb => by
    have := aHold_b wa.1 wa.2.1 wa.2.2.2.2.1 hb
    have := aBear_b wa.1 wa.2.1 wa.2.2.1 hb
    exact ⟨rfl, by omega, by omega⟩⟩
theorem zm187_8 {d : Nat} {S : zS} {σ : zM} {f : Nat → Int} (hS : mS 61 S σ) (w : wB S) (hf : mF S f σ) (hr : fR S f) : zrun (zev (d + 3)) zT_187 8 [some (.inr (.inr (0, 60))), some (.inl (iI (-1))), some (.inl 0)] [] σ = some (iI (aLst S f ((S 0).toNat)), 0, σ) := by
  have w0 := w.1
  have w1 := w.2.1
  obtain ⟨h, e, h1, h2, h3⟩ := hf
  have key : ∀ i, i ≤ (S 0).toNat → zrun (zev (d + 3)) zT_187 8 [some (.inr (.inr (0, 60))), some (.inl (iI (aLst S f i))), some (.inl (iI i))] [] σ = some (iI (aLst S f ((S 0).toNat)), 0, σ) := by
    intro i hi
    refine zloop (n := (S 0).toNat) (P := fun i => zrun (zev (d + 3)) zT_187 8 [some (.inr (.inr (0, 60))), some (.inl (iI (aLst S f i))), some (.inl (iI i))] [] σ = some (iI (aLst S f ((S 0).toNat)), 0, σ)) ?_ ?_ hi
    · rw [ez_187_8, hS 0 (by decide), if_neg (by rw [iI_lt (by omega) (by omega)]; omega)]
    · intro i hi ih
      have w2 := w.2.2 i hi
      have hl := aLst_r (S := S) (f := f) i
      have e1 : aLst S f (i + 1) = if aBrk S i = false ∧ (aLst S f i < 0 ∨ f i < f (aLst S f i).toNat) then (i : Int) else aLst S f i := rfl
      rw [ez_187_8, hS 0 (by decide), if_pos (by rw [iI_lt (by omega) (by omega)]; omega)]
      simp only [zm157 (d := d) hS (show i < 9 by omega) (by omega), zbs, zBi, hki1]
      cases hh : aBrk S i
      · rw [cond_false]
        by_cases q : aLst S f i < 0
        · rw [if_pos (⟨hh, Or.inl q⟩ : aBrk S i = false ∧ _)] at e1
          rw [if_pos (by rw [iI_lt0 (by omega)]; exact q)]
          rw [e1] at ih
          exact ih
        · rw [if_neg (by rw [iI_lt0 (by omega)]; exact q)]
          obtain ⟨m, hm⟩ := zint (show 0 ≤ aLst S f i by omega)
          rw [hm] at e1 hl ⊢
          rw [Int.toNat_natCast] at e1
          obtain ⟨a1, a2, a3⟩ := h3 i hi
          obtain ⟨a4, a5, a6⟩ := h3 m (by omega)
          have r1 := hr i hi
          have r2 := hr m (by omega)
          simp only [zgd_t (iI_ink (z := i) (k := i) rfl (show i < 9 by omega) (by decide)), iI_Nn (show i ≤ 2147483647 by omega), zgd_t (iI_ink (z := m) (k := m) rfl (show m < 9 by omega) (by decide)), iI_Nn (show m ≤ 2147483647 by omega), h1 i hi, h1 m (by omega), h2 i hi, h2 m (by omega), iI_sub, iI_lt (show zrn (e m - h m) by omega) (show zrn (e i - h i) by omega)]
          by_cases q2 : f i < f m
          · rw [if_pos (⟨hh, Or.inr q2⟩ : aBrk S i = false ∧ _)] at e1
            rw [if_pos (by omega)]
            rw [e1] at ih
            exact ih
          · rw [if_neg (fun z => z.2.elim (fun y => by omega) q2)] at e1
            rw [if_neg (by omega)]
            rw [e1] at ih
            exact ih
      · rw [cond_true]
        rw [if_neg (fun z => by rw [hh] at z; cases z.1)] at e1
        rw [e1] at ih
        exact ih
  exact key 0 (by omega)
theorem zm187 {d : Nat} {S : zS} {σ : zM} (hS : mS 61 S σ) (wa : wA S) (hh : mR 65 S (aHold S) σ) : ∃ τ, zev (d + 7) 187 [.inr (.inr (0, 60))] σ = some (iI (aLst S (aSp S) ((S 0).toNat)), 0, τ) ∧ zFr (Wk 0 66) σ τ ∧ mR 66 S (aBear S) τ := by
  obtain ⟨τ, c1, c2, c3⟩ := zm168 (d := d) hS wa.1 wa.2.1 wa.2.2.1
  rw [ez_187]
  simp only [c1, zbs]
  refine ⟨τ, ?_, c2, c3⟩
  exact zm187_8 (d := d + 3) (mS_g hS c2 (fun i => by omega)) wa.1 (mF_sp wa (mR_f hh (zFr_f c2 (fun i => by omega))) c3) (aSp_r wa)
def aNb (S : zS) : Nat → Nat
  | 0 => 0
  | n + 1 => bif aBrk S n then aNb S n else aNb S n + 1
theorem aNb_le {S : zS} : ∀ {n : Nat}, aNb S n ≤ n
  | 0 => Nat.le_refl _
  | n + 1 => by
    have := aNb_le (S := S) (n := n)
    show (bif _ then _ else _) ≤ _
    cases aBrk S n
    · rw [cond_false]; omega
    · rw [cond_true]; omega
theorem aNb_mono {S T : zS} (h : ∀ b, b < 9 → aBrk S b = true → aBrk T b = true) : ∀ {n : Nat}, n ≤ 9 → aNb T n ≤ aNb S n
  | 0, _ => Nat.le_refl _
  | n + 1, hn => by
    have := aNb_mono h (n := n) (by omega)
    show (bif _ then _ else _) ≤ (bif _ then _ else _)
    cases hs : aBrk S n
    · cases aBrk T n
      · rw [cond_false, cond_false]; omega
      · rw [cond_true, cond_false]; omega
    · rw [h n (by omega) hs, cond_true, cond_true]; exact this
theorem aNb_lt {S T : zS} (h : ∀ b, b < 9 → aBrk S b = true → aBrk T b = true) {w : Nat} (hs : aBrk S w = false) (ht : aBrk T w = true) : ∀ {n : Nat}, n ≤ 9 → w < n → aNb T n < aNb S n
  | 0, _, hw => absurd hw (Nat.not_lt_zero _)
  | n + 1, hn, hw => by
    have hm := aNb_mono h (n := n) (by omega)
    show (bif _ then _ else _) < (bif _ then _ else _)
    by_cases e : w = n
    · subst e
      rw [hs, ht, cond_true, cond_false]; omega
    · have := aNb_lt h hs ht (n := n) (by omega) (by omega)
      cases hs2 : aBrk S n
      · cases aBrk T n
        · rw [cond_false, cond_false]; omega
        · rw [cond_true, cond_false]; omega
      · rw [h n (by omega) hs2, cond_true, cond_true]; exact this
theorem aLst_w {S : zS} {f : Nat → Int} : ∀ {n m : Nat}, aLst S f n = m → aBrk S m = false
  | 0, m, h => by
    have h : (-1 : Int) = m := h
    omega
  | n + 1, m, h => by
    have h : (if aBrk S n = false ∧ (aLst S f n < 0 ∨ f n < f (aLst S f n).toNat) then (n : Int) else aLst S f n) = m := h
    split at h
    · rename_i q
      have : n = m := by omega
      rw [← this]; exact q.1
    · exact aLst_w h
theorem aLst_none {S : zS} {f : Nat → Int} : ∀ {n : Nat}, aNb S n = 0 → aLst S f n = -1
  | 0, _ => rfl
  | n + 1, h => by
    have h : (bif aBrk S n then aNb S n else aNb S n + 1) = 0 := h
    cases hs : aBrk S n
    · rw [hs, cond_false] at h; omega
    · rw [hs, cond_true] at h
      have h2 := aLst_none (f := f) h
      show (if aBrk S n = false ∧ _ then (n : Int) else aLst S f n) = -1
      rw [if_neg (fun z => by rw [hs] at z; cases z.1), h2]
theorem aFal_m {S : zS} {w b : Nat} (wa : wA S) (h : aBrk S b = true) (hb : b < 9) : aBrk (aFal S w) b = true := by
  have p1 := wa.2.2.1.2.1
  unfold aBrk at h ⊢
  have e : aFal S w (11 + 5 * b) = aBk S w ((S 0).toNat) (11 + 5 * b) := aDn_n (by omega) (by omega)
  rw [e, aBk_s]
  split
  · rfl
  · exact h
theorem aFal_w {S : zS} {w : Nat} (wa : wA S) (hw : w < (S 0).toNat) : aBrk (aFal S w) w = true := by
  have p1 := wa.2.2.1.2.1
  have b1 := wa.1.2.1
  unfold aBrk
  have e : aFal S w (11 + 5 * w) = aBk S w ((S 0).toNat) (11 + 5 * w) := aDn_n (by omega) (by omega)
  rw [e, aBk_s, if_pos ⟨hw, aAb_s⟩]
  rfl
theorem zup_same {S : zS} {i : Nat} {v : Int} (h : S i = v) : zup S i v = S := funext fun j => by
  unfold zup
  split
  · rename_i e; rw [e, h]
  · rfl
abbrev Wg : Nat → Nat → Nat → Prop := fun g k i => g = 0 ∧ (k = 66 ∨ (k = 61 ∧ 7 ≤ i ∧ i < 76))
theorem zm190_72 {d w : Nat} {T : zS} (wa : wA T) (hw : w < (T 0).toNat) : ∀ (n k : Nat) (σ : zM) (acc : Int), k + n = (T 2).toNat → mS 61 (aDn T w k) σ → ∃ τ, zrun (zev (d + 7)) zT_190 72 [some (.inr (.inr (0, 60))), some (.inl (iI (acc + aCt T w k))), some (.inl (iI w)), some (.inl (iI k))] [] σ = (Option.bind (zev (d + 7) 187 [.inr (.inr (0, 60))] τ) fun x4 => zrun (zev (d + 7)) zT_190 11 [some (.inr (.inr (0, 60))), some (.inl (iI (acc + aCt T w ((T 2).toNat)))), some (.inl x4.1), some (.inl (iI ((T 2).toNat)))] [] x4.2.2) ∧ zFr Wg σ τ ∧ mS 61 (aDn T w ((T 2).toNat)) τ
  | 0, k, σ, acc, hk, hS => by
    have p0 := wa.2.2.1.1
    have p1 := wa.2.2.1.2.1
    have ek : k = (T 2).toNat := by omega
    subst ek
    have e2 : aDn T w ((T 2).toNat) 2 = T 2 := aDn_n (by omega) (by omega)
    rw [ez_190_72, hS 2 (by decide), e2, if_neg (by rw [iI_lt (by omega) (by omega)]; omega)]
    exact ⟨σ, rfl, zFr_r σ, hS⟩
  | n + 1, k, σ, acc, hk, hS => by
    have p0 := wa.2.2.1.1
    have p1 := wa.2.2.1.2.1
    have b0 := wa.1.1
    have b1 := wa.1.2.1
    have wd := wA_dn wa (w := w) (n := k) (by omega)
    have e2 : aDn T w k 2 = T 2 := aDn_n (by omega) (by omega)
    have e0 : aDn T w k 0 = T 0 := aDn_n (by omega) (by omega)
    have hs0 : aSeat (aDn T w k) k = aSeat T k := aDn_s (Nat.le_refl k)
    have hr := aSeat_r wa.2.2.1 (show k < (T 2).toNat by omega)
    have hab : aAbI (aDn T w k) (aSeat T k) w = aAbI T (aSeat T k) w := aAbI_c (fun b hb => aDn_n (by omega) (by omega)) wa.1 hr.2
    have hc : aCt T w (k + 1) = bif aAbI T (aSeat T k) w then aCt T w k + 1 else aCt T w k := rfl
    have hd : aDn T w (k + 1) = bif aAbI T (aSeat T k) w then aSit (aDn T w k) k (-1) else aDn T w k := rfl
    have ih := zm190_72 (d := d) wa hw n (k + 1)
    rw [ez_190_72, hS 2 (by decide), e2, if_pos (by rw [iI_lt (by omega) (by omega)]; omega), zm179 (d := d + 4) hS (show k < 8 by omega), hs0]
    simp only [zbs, hki1]
    by_cases q : aSeat T k < 0
    · rw [aAbI_n q, cond_false] at hc hd
      rw [hc, hd] at ih
      rw [if_pos (by rw [iI_lt0 (by omega)]; exact q)]
      exact ih σ acc (by omega) hS
    · rw [if_neg (by rw [iI_lt0 (by omega)]; exact q), zm179 (d := d + 4) hS (show k < 8 by omega), hs0]
      simp only [zbs, zm189 (d := d + 3) hS wd.1 (show w < 9 by omega) (show -1 ≤ aSeat T k ∧ aSeat T k < aDn T w k 0 by rw [e0]; exact hr), zBi, hab]
      cases hx : aAbI T (aSeat T k) w
      · rw [hx, cond_false] at hc hd
        rw [hc, hd] at ih
        rw [cond_false]
        exact ih σ acc (by omega) hS
      · rw [hx, cond_true] at hc hd
        rw [hc, hd] at ih
        rw [cond_true]
        have e8 := zm180 (d := d + 5) (z := -1) (σ := σ) (show k < 8 by omega)
        have e8 : zev (d + 7) 180 [.inr (.inr (0, 60)), .inl (iI k), .inl (-1)] σ = _ := e8
        rw [e8]
        simp only [zbs, iI_a1]
        obtain ⟨τ, g1, g2, g3⟩ := ih (zwI σ 0 61 (54 + 3 * k) (iI (-1 + 1))) acc (by omega) (mS_w hS)
        refine ⟨τ, ?_, zFr_tt (zFr_w ⟨rfl, by omega⟩) g2, g3⟩
        rw [← g1, Int.add_assoc]
theorem zm190_25 {d w : Nat} {S : zS} (wa : wA S) (hw : w < (S 0).toNat) : ∀ (n k : Nat) (σ : zM) (acc : Int), k + n = (S 0).toNat → mS 61 (aBk S w k) σ → ∃ τ, zrun (zev (d + 7)) zT_190 25 [some (.inr (.inr (0, 60))), some (.inl (iI acc)), some (.inl (iI w)), some (.inl (iI k))] [] σ = (Option.bind (zev (d + 7) 187 [.inr (.inr (0, 60))] τ) fun x4 => zrun (zev (d + 7)) zT_190 11 [some (.inr (.inr (0, 60))), some (.inl (iI (acc + aCt S w ((S 2).toNat)))), some (.inl x4.1), some (.inl (iI ((S 2).toNat)))] [] x4.2.2) ∧ zFr Wg σ τ ∧ mS 61 (aFal S w) τ
  | 0, k, σ, acc, hk, hS => by
    have b0 := wa.1.1
    have b1 := wa.1.2.1
    have ek : k = (S 0).toNat := by omega
    subst ek
    have e0 : aBk S w ((S 0).toNat) 0 = S 0 := aBk_n (by omega) (by omega)
    have e2 : aBk S w ((S 0).toNat) 2 = S 2 := aBk_n (by omega) (by omega)
    have wd := wA_bk wa (w := w) (n := (S 0).toNat) (by omega)
    have h := zm190_72 (d := d) (w := w) wd (by rw [e0]; exact hw) ((S 2).toNat) 0 σ acc (by rw [e2]; omega) hS
    rw [e2, aCt_bk wa (Nat.le_refl _)] at h
    rw [ez_190_25, hS 0 (by decide), e0, if_neg (by rw [iI_lt (by omega) (by omega)]; omega)]
    have h0 : acc + aCt (aBk S w ((S 0).toNat)) w 0 = acc := Int.add_zero acc
    rw [h0] at h
    exact h
  | n + 1, k, σ, acc, hk, hS => by
    have b0 := wa.1.1
    have b1 := wa.1.2.1
    have e0 : aBk S w k 0 = S 0 := aBk_n (by omega) (by omega)
    have wd := wA_bk wa (w := w) (n := k) (by omega)
    have hab : aAb (aBk S w k) k w = aAb S k w := aAb_c (fun b hb => aBk_n (by omega) (by omega)) wa.1 (by omega)
    have hd : aBk S w (k + 1) = bif aAb S k w then zup (aBk S w k) (11 + 5 * k) 1 else aBk S w k := rfl
    have ih := zm190_25 (d := d) wa hw n (k + 1)
    have e5 : zev (d + 7) 155 [.inl (iI k), .inl 4] σ = some (iI ((7 + 5 * k + 4 : Nat) : Int), 0, σ) := zm155 (d := d + 6) (b := k) (w := 4)
    rw [show 7 + 5 * k + 4 = 11 + 5 * k by omega] at e5
    have e6 := zm156 (d := d + 5) (b := k) (w := 4) hS (by omega)
    rw [show 7 + 5 * k + 4 = 11 + 5 * k by omega] at e6
    have e6 : zev (d + 7) 156 [.inr (.inr (0, 60)), .inl (iI k), .inl 4] σ = _ := e6
    have e9 := zm189 (d := d + 3) (w := w) (z := k) hS wd.1 (by omega) (by rw [e0]; omega)
    rw [aAbI_p, hab] at e9
    rw [ez_190_25, hS 0 (by decide), e0, if_pos (by rw [iI_lt (by omega) (by omega)]; omega), e5]
    simp only [zbs, e9, zBi, hki1, e6, zgd_t (iI_ink (z := ((11 + 5 * k : Nat) : Int)) (k := 11 + 5 * k) rfl (show 11 + 5 * k < 320 by omega) (by decide)), iI_Nn (show 11 + 5 * k ≤ 2147483647 by omega)]
    cases hx : aAb S k w
    · rw [hx, cond_false] at hd
      rw [hd] at ih
      rw [cond_false]
      have hS' := mS_w (i := 11 + 5 * k) (v := aBk S w k (11 + 5 * k)) hS
      rw [zup_same rfl] at hS'
      obtain ⟨τ, g1, g2, g3⟩ := ih _ acc (by omega) hS'
      exact ⟨τ, g1, zFr_tt (zFr_w ⟨rfl, by omega⟩) g2, g3⟩
    · rw [hx, cond_true] at hd
      rw [hd] at ih
      rw [cond_true]
      obtain ⟨τ, g1, g2, g3⟩ := ih _ acc (by omega) (mS_w (i := 11 + 5 * k) (v := 1) hS)
      exact ⟨τ, g1, zFr_tt (zFr_w ⟨rfl, by omega⟩) g2, g3⟩
theorem zm190_11 {d : Nat} : ∀ (n : Nat) (S : zS) (σ : zM) (acc : Int) (d3 : Option zV), aNb S ((S 0).toNat) ≤ n → wA S → mS 61 S σ → mR 65 S (aHold S) σ → mR 66 S (aBear S) σ → ∃ τ, zrun (zev (d + 7)) zT_190 11 [some (.inr (.inr (0, 60))), some (.inl (iI acc)), some (.inl (iI (aLst S (aSp S) ((S 0).toNat)))), d3] [] σ = some (iI (acc + (aFl n S).2), 0, τ) ∧ zFr Wg σ τ ∧ mS 61 (aFl n S).1 τ
  | 0, S, σ, acc, d3, hn, wa, hS, hh, he => by
    have b1 := wa.1.2.1
    rw [aLst_none (by omega), ez_190_11, if_pos (by decide)]
    exact ⟨σ, by show _ = some (iI (acc + 0), 0, σ); rw [Int.add_zero], zFr_r σ, hS⟩
  | n + 1, S, σ, acc, d3, hn, wa, hS, hh, he => by
    have b0 := wa.1.1
    have b1 := wa.1.2.1
    have hl := aLst_r (S := S) (f := aSp S) ((S 0).toNat)
    rw [aFl_s, ez_190_11]
    by_cases q : aLst S (aSp S) ((S 0).toNat) < 0
    · rw [if_pos (by rw [iI_lt0 (by omega)]; exact q), if_pos (Or.inl q)]
      exact ⟨σ, by show _ = some (iI (acc + 0), 0, σ); rw [Int.add_zero], zFr_r σ, hS⟩
    · rw [if_neg (by rw [iI_lt0 (by omega)]; exact q)]
      obtain ⟨m, hm⟩ := zint (show 0 ≤ aLst S (aSp S) ((S 0).toNat) by omega)
      have hbr := aLst_w hm
      rw [hm] at hl ⊢
      rw [Int.toNat_natCast, zm169 (d := d + 3) hS wa.1 (mF_sp wa hh he) (show m < (S 0).toNat by omega)]
      simp only [zbs, zBi]
      unfold aCr
      rw [hbr, Bool.not_false, Bool.and_true]
      by_cases q2 : aSp S m < 0
      · rw [decide_eq_true q2, cond_true, if_neg (by omega)]
        obtain ⟨τ, g1, g2, g3⟩ := zm190_25 (d := d) (w := m) wa (by omega) ((S 0).toNat) 0 σ acc (by omega) hS
        have g1 : zrun (zev (d + 7)) zT_190 25 [some (.inr (.inr (0, 60))), some (.inl (iI acc)), some (.inl (iI m)), some (.inl 0)] [] σ = _ := g1
        have e0 := aFal_0 (w := m) wa
        have hH : mR 65 (aFal S m) (aHold (aFal S m)) τ := fun b hb => by
          rw [e0] at hb
          rw [zFr_f g2 (fun i => by omega), hh b hb, aHold_c (by omega) (fun i hi => aFal_n wa (by omega))]
        obtain ⟨τ2, f1, f2, f3⟩ := zm187 (d := d) g3 (wA_fal wa) hH
        rw [g1, f1]
        simp only [zbs]
        have hS2 := mS_g g3 f2 (fun i => by omega)
        have hnb : aNb (aFal S m) (((aFal S m) 0).toNat) ≤ n := by
          rw [e0]
          have := aNb_lt (S := S) (T := aFal S m) (w := m) (fun b hb h => aFal_m wa h hb) hbr (aFal_w wa (by omega)) (n := (S 0).toNat) (by omega) (by omega)
          omega
        obtain ⟨τ3, k1, k2, k3⟩ := zm190_11 (d := d) n (aFal S m) τ2 (acc + aCt S m ((S 2).toNat)) (some (.inl (iI ((S 2).toNat)))) hnb (wA_fal wa) hS2 (mR_f hH (zFr_f f2 (fun i => by omega))) f3
        refine ⟨τ3, ?_, zFr_tt g2 (zFr_tt (zFr_i f2 fun _ _ _ q => ⟨q.1, Or.inl q.2⟩) k2), k3⟩
        rw [k1]
        exact zsI (by omega)
      · rw [decide_eq_false q2, cond_false, if_pos (Or.inr (by omega))]
        exact ⟨σ, by show _ = some (iI (acc + 0), 0, σ); rw [Int.add_zero], zFr_r σ, hS⟩
abbrev Wn : Nat → Nat → Nat → Prop := fun g k i => g = 0 ∧ (k = 64 ∨ k = 65 ∨ k = 66 ∨ (k = 61 ∧ 7 ≤ i ∧ i < 76))
theorem zm190 {d : Nat} {S : zS} {σ : zM} (hS : mS 61 S σ) (wa : wA S) : ∃ τ, zev (d + 8) 190 [.inr (.inr (0, 60))] σ = some (iI (aFl 9 S).2, 0, τ) ∧ zFr Wn σ τ ∧ mS 61 (aFl 9 S).1 τ := by
  have b1 := wa.1.2.1
  rw [ez_190]
  obtain ⟨τ, c1, c2, c3⟩ := zm166 (d := d + 1) hS wa.1 wa.2.1 wa.2.2.2.2.1
  have hS1 := mS_g hS c2 (fun i => by omega)
  obtain ⟨τ1, f1, f2, f3⟩ := zm187 (d := d) hS1 wa c3
  simp only [c1, zbs, f1]
  obtain ⟨τ2, k1, k2, k3⟩ := zm190_11 (d := d) 9 S τ1 0 none (Nat.le_trans aNb_le (by omega)) wa (mS_g hS1 f2 (fun i => by omega)) (mR_f c3 (zFr_f f2 (fun i => by omega))) f3
  rw [Int.zero_add] at k1
  exact ⟨τ2, k1, zFr_tt (zFr_i c2 fun _ _ _ q => ⟨q.1, by omega⟩) (zFr_tt (zFr_i f2 fun _ _ _ q => ⟨q.1, by omega⟩) (zFr_i k2 fun _ _ _ q => ⟨q.1, by omega⟩)), k3⟩
