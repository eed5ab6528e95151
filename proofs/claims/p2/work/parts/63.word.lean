abbrev Wfl : Nat → Nat → Nat → Prop := fun g k i => g = 0 ∧ k = 60 ∧ (i = 19 ∨ i = 20 ∨ i = 24)
theorem mTk_24 {t : zXt} {s e : Nat} {v : Int32} {σ : zM} (h : mTk t s e σ) : mTk t s e (zwI σ 0 60 24 v) := ⟨⟨by rw [zfe (by omega)]; exact h.1.1, fun i hi => by rw [zfe (by omega)]; exact h.1.2 i hi⟩, by rw [zfe (by omega)]; exact h.2.1, by rw [zfe (by omega)]; exact h.2.2⟩
theorem zm236t {d s e : Nat} {t : zXt} {σ : zM} (w : wT t) (h : mTk t s e σ) (he : e ≤ t.1) (hF : σ.1 0 60 24 = zB false) : ∃ τ, zev (d + 5) 236 [.inr (.inr (0, 60)), .inl 1] σ = some (0, 0, τ) ∧ zFr Wfl σ τ ∧ mTk t (aTs t e) (aTf t (aTs t e)) τ ∧ τ.1 0 60 24 = zB false := by
  have h2 := mTk_24 (v := 0) h
  obtain ⟨τ, g1, g2, g3⟩ := zm235 (d := d) w h2.1 he h2.2.2
  rw [ez_236]
  simp only [hF, zBi, cond_false, zfs]
  rw [if_neg (by decide), zgd_t (by decide), if_pos trivial, g1]
  exact ⟨τ, rfl, zFr_tt (zFr_w (by omega)) (zFr_i g2 fun _ _ _ q => by omega), g3, (g2.1 _ _ _ (by omega)).trans (by rw [zfs]; rfl)⟩
theorem zm236f {d : Nat} {σ : zM} (hF : σ.1 0 60 24 = zB false) : zev (d + 1) 236 [.inr (.inr (0, 60)), .inl 0] σ = some (0, 0, zwI σ 0 60 24 1) := by
  rw [ez_236]
  simp only [hF, zBi, cond_false, zfs]
  rw [if_pos trivial, zgd_t (by decide), if_neg (by decide)]
theorem zm236x {d : Nat} {p : Int32} {σ : zM} (hF : σ.1 0 60 24 = zB true) : zev (d + 1) 236 [.inr (.inr (0, 60)), .inl p] σ = some (0, 0, zwI σ 0 60 24 1) := by
  rw [ez_236]
  simp only [hF, zBi, cond_true, zfs]
  rw [zgd_t (by decide), if_neg (by decide)]
def hw (t : zXt) (s : Nat) : Nat → Int64
  | 0 => 0
  | k + 1 => if 0 < lg_cmp (hw t s k) 36028797018963967 then hw t s k else 32 * hw t s k + Int32.toInt64 (iI (t.2 (s + k)) - 96)
def aHs (t : zXt) (s : Nat) : Int64 := bif aLt (aBt t s) then hw t s (aTf t s - s) else 0
theorem zm237 {d s : Nat} {t : zXt} {F : Bool} {σ : zM} (w : wT t) (h : mTk t s (aTf t s) σ) (hs : s ≤ t.1) (hF : σ.1 0 60 24 = zB F) : zev (d + 4) 237 [.inr (.inr (0, 60))] σ = some (0, bif F then 0 else aHs t s, σ) := by
  have hl := w.1
  have he := aTf_l hs
  have hb := aBt_r w s
  have key : ∀ (n k : Nat) (d2 : Option zV), k + n = aTf t s - s → zrun (zev (d + 3)) zT_237 7 [some (.inr (.inr (0, 60))), some (.inr (.inl (hw t s k))), d2, some (.inl (iI ((s + k : Nat) : Int)))] [] σ = some (0, bif F then 0 else aHs t s, σ) := by
    intro n
    induction n with
    | zero =>
      intro k d2 hk
      rw [ez_237_7, h.2.2, if_neg (by rw [iI_lt (by omega) (by omega)]; omega), hF, h.2.1]
      simp only [zBi, zm232 (d := d + 2) h.1 w (show s ≤ 1000 by omega), zbs, zm233 (d := d + 1) (show zrn (aBt t s) by omega)]
      cases F
      · rw [cond_false, cond_false]
        unfold aHs
        rw [show k = aTf t s - s by omega]
        cases aLt (aBt t s) <;> rfl
      · rfl
    | succ n ih =>
      intro k d2 hk
      have ek : hw t s (k + 1) = if 0 < lg_cmp (hw t s k) 36028797018963967 then hw t s k else 32 * hw t s k + Int32.toInt64 (iI (t.2 (s + k)) - 96) := rfl
      have ih' := ih (k + 1) none (by omega)
      rw [ek] at ih'
      rw [ez_237_7, h.2.2, if_pos (by rw [iI_lt (by omega) (by omega)]; omega), hki1]
      by_cases q : 0 < lg_cmp (hw t s k) 36028797018963967
      · rw [if_pos q] at ih' ⊢
        exact ih'
      · rw [if_neg q] at ih' ⊢
        rw [zgd_t (iI_ink (z := ((s + k : Nat) : Int)) (k := s + k) rfl (show s + k < 200 by omega) (by decide)), iI_Nn (show s + k ≤ 2147483647 by omega), h.1.2 (s + k) (by omega)]
        exact ih'
  rw [ez_237, h.2.1]
  exact key (aTf t s - s) 0 none (by omega)
def hs (t : zXt) (s : Nat) : Nat → Int
  | 0 => 0
  | k + 1 => if 36028797018963967 < hs t s k then hs t s k else 32 * hs t s k + (t.2 (s + k) - 96)
theorem lI_tt {z : Int} (h : -9223372036854775808 ≤ z ∧ z ≤ 9223372036854775807) : (lI z).toInt = z := Int64.toInt_ofInt_of_le h.1 (by omega)
theorem hw_s {t : zXt} {s : Nat} : ∀ k, (∀ i, i < k → aLt (t.2 (s + i)) = true) → hw t s k = lI (hs t s k) ∧ 0 ≤ hs t s k ∧ hs t s k ≤ 2305843009213693951
  | 0, _ => ⟨rfl, Int.le_refl _, by show (0 : Int) ≤ _; decide⟩
  | k + 1, h => by
    obtain ⟨h1, h2, h3⟩ := hw_s (t := t) (s := s) k (fun i hi => h i (by omega))
    have h0 : 97 ≤ t.2 (s + k) ∧ t.2 (s + k) ≤ 122 := of_decide_eq_true (h k (by omega))
    have e1 : hw t s (k + 1) = if 0 < lg_cmp (hw t s k) 36028797018963967 then hw t s k else 32 * hw t s k + Int32.toInt64 (iI (t.2 (s + k)) - 96) := rfl
    have e2 : hs t s (k + 1) = if 36028797018963967 < hs t s k then hs t s k else 32 * hs t s k + (t.2 (s + k) - 96) := rfl
    have c : (0 < lg_cmp (hw t s k) 36028797018963967) = (36028797018963967 < hs t s k) := by
      rw [propext (lg_cmp_gt _ _), zlt64, h1, lI_tt (by omega), show (36028797018963967 : Int64).toInt = 36028797018963967 by decide]
    rw [e1, e2]
    simp only [c]
    by_cases q : 36028797018963967 < hs t s k
    · rw [if_pos q, if_pos q]
      exact ⟨h1, h2, h3⟩
    · rw [if_neg q, if_neg q]
      refine ⟨?_, by omega, by omega⟩
      rw [h1, show iI (t.2 (s + k)) - 96 = iI (t.2 (s + k) - 96) from iI_sub _ 96, lI_i (by omega)]
      show lI 32 * lI (hs t s k) + lI (t.2 (s + k) - 96) = _
      unfold lI
      rw [← Int64.ofInt_mul, ← Int64.ofInt_add]
def hr : List Int → Int
  | [] => 0
  | u :: r => 32 * hr r + u
theorem hr_p : ∀ r : List Int, (∀ u, u ∈ r → 1 ≤ u ∧ u ≤ 26) → 0 ≤ hr r
  | [], _ => Int.le_refl _
  | u :: r, h => by
    have := hr_p r (fun v hv => h v (List.mem_cons.mpr (Or.inr hv)))
    have := h u (List.mem_cons.mpr (Or.inl rfl))
    show 0 ≤ 32 * hr r + u
    omega
theorem hs_r {t : zXt} {s : Nat} : ∀ (r : List Int), (∀ u, u ∈ r → 1 ≤ u ∧ u ≤ 26) → hr r ≤ 1125899906842624 → ∀ n, (∀ i, i < n → aLt (t.2 (s + i)) = true) → (hs t s n = hr r ↔ n = r.length ∧ ∀ i, i < n → t.2 (s + i) - 96 = r.getD (n - 1 - i) 0)
  | [], _, _, n, h => by
    cases n with
    | zero => exact ⟨fun _ => ⟨rfl, fun i hi => absurd hi (Nat.not_lt_zero i)⟩, fun _ => rfl⟩
    | succ k =>
      have h1 := (hw_s (t := t) (s := s) k (fun i hi => h i (by omega))).2
      have h0 : 97 ≤ t.2 (s + k) ∧ t.2 (s + k) ≤ 122 := of_decide_eq_true (h k (by omega))
      constructor
      · intro q
        have q : (if 36028797018963967 < hs t s k then hs t s k else 32 * hs t s k + (t.2 (s + k) - 96)) = 0 := q
        split at q <;> omega
      · rintro ⟨q, -⟩
        cases q
  | u :: r, hu, hb, n, h => by
    have hb : 32 * hr r + u ≤ 1125899906842624 := hb
    have u1 := hu u (List.mem_cons.mpr (Or.inl rfl))
    have hp := hr_p r (fun v hv => hu v (List.mem_cons.mpr (Or.inr hv)))
    cases n with
    | zero =>
      constructor
      · intro q
        have q : (0 : Int) = 32 * hr r + u := q
        omega
      · rintro ⟨q, -⟩
        cases q
    | succ k =>
      have ih := hs_r (t := t) (s := s) r (fun v hv => hu v (List.mem_cons.mpr (Or.inr hv))) (by omega) k (fun i hi => h i (by omega))
      have h1 := (hw_s (t := t) (s := s) k (fun i hi => h i (by omega))).2
      have h0 : 97 ≤ t.2 (s + k) ∧ t.2 (s + k) ≤ 122 := of_decide_eq_true (h k (by omega))
      have e : hs t s (k + 1) = if 36028797018963967 < hs t s k then hs t s k else 32 * hs t s k + (t.2 (s + k) - 96) := rfl
      have st : hs t s (k + 1) = 32 * hr r + u ↔ hs t s k = hr r ∧ t.2 (s + k) - 96 = u := by
        rw [e]
        split
        · constructor
          · intro q; omega
          · rintro ⟨q1, q2⟩; omega
        · constructor
          · intro q; omega
          · rintro ⟨q1, q2⟩; omega
      show hs t s (k + 1) = 32 * hr r + u ↔ _
      rw [st, ih]
      constructor
      · rintro ⟨⟨q1, q2⟩, q3⟩
        refine ⟨by rw [List.length_cons, q1], fun i hi => ?_⟩
        by_cases e : i = k
        · subst e
          rw [q3, show i + 1 - 1 - i = 0 by omega]; rfl
        · rw [q2 i (by omega), show k + 1 - 1 - i = (k - 1 - i) + 1 by omega]; rfl
      · rintro ⟨q1, q2⟩
        refine ⟨⟨by rw [List.length_cons] at q1; omega, fun i hi => ?_⟩, ?_⟩
        · have := q2 i (by omega)
          rw [show k + 1 - 1 - i = (k - 1 - i) + 1 by omega] at this
          exact this
        · have := q2 k (by omega)
          rw [show k + 1 - 1 - k = 0 by omega] at this
          exact this
def zKw : List Int := [2610408, 7935150, 4697, 15748, 17800118436, 11843827, 441925, 398963, 3764, 294, 14836, 1476, 498, 19504, 763332, 409031, 8892563, 492210354]
def zKr (g : Nat) : List Int := ((zSL.getD g []).map (fun c => c.toInt - 96)).reverse
theorem zKr_c : ∀ g, g < 18 → hr (zKr g) = zKw.getD g 0 ∧ zKw.getD g 0 ≤ 1125899906842624 ∧ (zKr g).length = (zSL.getD g []).length ∧ (∀ u, u ∈ zKr g → 1 ≤ u ∧ u ≤ 26) ∧ ∀ i, i < (zSL.getD g []).length → (zKr g).getD ((zSL.getD g []).length - 1 - i) 0 = ((zSL.getD g []).getD i 0).toInt - 96 := by decide +kernel
theorem aIs_h {t : zXt} {s g : Nat} (w : wT t) (hs0 : s < t.1) (hg : g < 18) (q : aLt (t.2 s) = true) : aIs t s g = true ↔ hs t s (aTe t s - s) = zKw.getD g 0 := by
  obtain ⟨k1, k2, k3, k4, k5⟩ := zKr_c g hg
  have ha := aTe_a q
  have he := aTe_l hs0
  have hl := w.1
  rw [← k1, hs_r (zKr g) k4 (by rw [k1]; exact k2) _ ha, k3]
  unfold aIs
  rw [Bool.and_eq_true, decide_eq_true_iff, aMt_d]
  constructor
  · rintro ⟨h1, h2⟩
    refine ⟨h1, fun i hi => ?_⟩
    have wi := w.2 (s + i) (by omega)
    have := h2 i (by omega)
    rw [h1, k5 i (by omega), ← this, t_iI (by omega)]
  · rintro ⟨h1, h2⟩
    refine ⟨h1, fun i hi => ?_⟩
    have wi := w.2 (s + i) (by omega)
    have := h2 i (by omega)
    rw [h1, k5 i hi] at this
    apply Int32.toInt_inj.mp
    rw [t_iI (by omega)]
    omega
theorem aHs_is {t : zXt} {s g : Nat} (w : wT t) (hs0 : s ≤ t.1) (hg : g < 18) : (lg_cmp (aHs t s) (lI (zKw.getD g 0)) = 0) = (s < t.1 ∧ aLt (t.2 s) = true ∧ aIs t s g = true) := by
  have kp : 1 ≤ zKw.getD g 0 ∧ zKw.getD g 0 ≤ 1125899906842624 := (by decide +kernel : ∀ g, g < 18 → 1 ≤ zKw.getD g 0 ∧ zKw.getD g 0 ≤ 1125899906842624) g hg
  refine propext ?_
  rw [lg_cmp_eq]
  unfold aHs aBt
  by_cases q : s < t.1
  · rw [if_pos q]
    cases q2 : aLt (t.2 s)
    · rw [cond_false]
      constructor
      · intro h
        have := congrArg Int64.toInt h
        rw [lI_tt (by omega), show (0 : Int64).toInt = 0 by decide] at this
        omega
      · rintro ⟨-, h, -⟩
        cases h
    · rw [cond_true, show aTf t s = aTe t s from if_pos q]
      obtain ⟨e1, e2, e3⟩ := hw_s (t := t) (s := s) (aTe t s - s) (aTe_a q2)
      rw [e1, aIs_h w q hg q2]
      constructor
      · intro h
        have := congrArg Int64.toInt h
        rw [lI_tt (by omega), lI_tt (by omega)] at this
        exact ⟨q, rfl, this⟩
      · rintro ⟨-, -, h⟩
        rw [h]
  · rw [if_neg q]
    constructor
    · intro h
      have := congrArg Int64.toInt h
      rw [show (bif aLt (-1) then hw t s (aTf t s - s) else 0) = (0 : Int64) from rfl, lI_tt (by omega), show (0 : Int64).toInt = 0 by decide] at this
      omega
    · rintro ⟨h, -⟩
      exact absurd h q
