abbrev Wfl : Nat → Nat → Nat → Prop := fun g k i => g = 0 ∧ k = 60 ∧ (i = 19 ∨ i = 20 ∨ i = 24)
theorem mTk_24 {t : zXt} {s e : Nat} {v : Int32} {σ : zM} (h : mTk t s e σ) : mTk t s e (zwI σ 0 60 24 v) := ⟨⟨by rw [zfe (by omega)]; exact h.1.1, fun i hi => by rw [zfe (by omega)]; exact h.1.2 i hi⟩, by rw [zfe (by omega)]; exact h.2.1, by rw [zfe (by omega)]; exact h.2.2⟩
theorem zm236t {d s e : Nat} {t : zXt} {σ : zM} (w : wT t) (h : mTk t s e σ) (he : e ≤ t.1) (hF : σ.1 0 60 24 = zB false) : ∃ τ, zev (d + 5) 236 [.inr (.inr (0, 60)), .inl 1] σ = some (0, 0, τ) ∧ zFr Wfl σ τ ∧ mTk t (aTs t e) (aTf t (aTs t e)) τ ∧ τ.1 0 60 24 = zB false := by
  have h2 := mTk_24 (v := 0) h
  obtain ⟨τ, g1, g2, g3⟩ := zm235 (d := d) w h2.1 he h2.2.2
  rw [ez_236]
  simp only [hF, zBi, cond_false, zfs]
  rw [if_neg (by decide), zgd_t (by decide), if_pos trivial, g1]
  exact ⟨τ, rfl, zFr_tt (zFr_w (by omega)) (zFr_i g2 fun _ _ _ q => by omega), g3, (g2.1 _ _ _ (by omega)).trans (by rw [zfs]; rfl)⟩
theorem zm236f {d : Nat} {σ : zM} (hF : σ.1 0 60 24 = zB false) : zev (d + 1) 236 [.inr (.inr (0, 60)), .inl 0] σ = some (0, 0, zwI σ 0 60 24 1) := by
  rw [ez_236]
  simp only [hF, zBi, cond_false, zfs]
  rw [if_pos trivial, zgd_t (by decide), if_neg (by decide)]
theorem zm236x {d : Nat} {p : Int32} {σ : zM} (hF : σ.1 0 60 24 = zB true) : zev (d + 1) 236 [.inr (.inr (0, 60)), .inl p] σ = some (0, 0, zwI σ 0 60 24 1) := by
  rw [ez_236]
  simp only [hF, zBi, cond_true, zfs]
  rw [zgd_t (by decide), if_neg (by decide)]
def hw (t : zXt) (s : Nat) : Nat → Int64
  | 0 => 0
  | k + 1 => if 0 < lg_cmp (hw t s k) 36028797018963967 then hw t s k else 32 * hw t s k + Int32.toInt64 (iI (t.2 (s + k)) - 96)
def aHs (t : zXt) (s : Nat) : Int64 := bif aLt (aBt t s) then hw t s (aTf t s - s) else 0
theorem zm237 {d s : Nat} {t : zXt} {F : Bool} {σ : zM} (w : wT t) (h : mTk t s (aTf t s) σ) (hs : s ≤ t.1) (hF : σ.1 0 60 24 = zB F) : zev (d + 4) 237 [.inr (.inr (0, 60))] σ = some (0, bif F then 0 else aHs t s, σ) := by
  have hl := w.1
  have he := aTf_l hs
  have hb := aBt_r w s
  have key : ∀ (n k : Nat) (d2 : Option zV), k + n = aTf t s - s → zrun (zev (d + 3)) zT_237 7 [some (.inr (.inr (0, 60))), some (.inr (.inl (hw t s k))), d2, some (.inl (iI ((s + k : Nat) : Int)))] [] σ = some (0, bif F then 0 else aHs t s, σ) := by
    intro n
    induction n with
    | zero =>
      intro k d2 hk
      rw [ez_237_7, h.2.2, if_neg (by rw [iI_lt (by omega) (by omega)]; omega), hF, h.2.1]
      simp only [zBi, zm232 (d := d + 2) h.1 w (show s ≤ 1000 by omega), zbs, zm233 (d := d + 1) (show zrn (aBt t s) by omega)]
      cases F
      · rw [cond_false, cond_false]
        unfold aHs
        rw [show k = aTf t s - s by omega]
        cases aLt (aBt t s) <;> rfl
      · rfl
    | succ n ih =>
      intro k d2 hk
      have ek : hw t s (k + 1) = if 0 < lg_cmp (hw t s k) 36028797018963967 then hw t s k else 32 * hw t s k + Int32.toInt64 (iI (t.2 (s + k)) - 96) := rfl
      have ih' := ih (k + 1) none (by omega)
      rw [ek] at ih'
      rw [ez_237_7, h.2.2, if_pos (by rw [iI_lt (by omega) (by omega)]; omega), hki1]
      by_cases q : 0 < lg_cmp (hw t s k) 36028797018963967
      · rw [if_pos q] at ih' ⊢
        exact ih'
      · rw [if_neg q] at ih' ⊢
        rw [zgd_t (iI_ink (z := ((s + k : Nat) : Int)) (k := s + k) rfl (show s + k < 200 by omega) (by decide)), iI_Nn (show s + k ≤ 2147483647 by omega), h.1.2 (s + k) (by omega)]
        exact ih'
  rw [ez_237, h.2.1]
  exact key (aTf t s - s) 0 none (by omega)
def hs (t : zXt) (s : Nat) : Nat → Int
  | 0 => 0
  | k + 1 => if 36028797018963967 < hs t s k then hs t s k else 32 * hs t s k + (t.2 (s + k) - 96)
theorem lI_tt {z : Int} (h : -9223372036854775808 ≤ z ∧ z ≤ 9223372036854775807) : (lI z).toInt = z := Int64.toInt_ofInt_of_le h.1 (by omega)
theorem hw_s {t : zXt} {s : Nat} : ∀ k, (∀ i, i < k → aLt (t.2 (s + i)) = true) → hw t s k = lI (hs t s k) ∧ 0 ≤ hs t s k ∧ hs t s k ≤ 2305843009213693951
  | 0, _ => ⟨rfl, Int.le_refl _, by show (0 : Int) ≤ _; decide⟩
  | k + 1, h => by
    obtain ⟨h1, h2, h3⟩ := hw_s (t := t) (s := s) k (fun i hi => h i (by omega))
    have h0 : 97 ≤ t.2 (s + k) ∧ t.2 (s + k) ≤ 122 := of_decide_eq_true (h k (by omega))
    have e1 : hw t s (k + 1) = if 0 < lg_cmp (hw t s k) 36028797018963967 then hw t s k else 32 * hw t s k + Int32.toInt64 (iI (t.2 (s + k)) - 96) := rfl
    have e2 : hs t s (k + 1) = if 36028797018963967 < hs t s k then hs t s k else 32 * hs t s k + (t.2 (s + k) - 96) := rfl
    have c : (0 < lg_cmp (hw t s k) 36028797018963967) = (36028797018963967 < hs t s k) := by
      rw [propext (lg_cmp_gt _ _), zlt64, h1, lI_tt (by omega), show (36028797018963967 : Int64).toInt = 36028797018963967 by decide]
    rw [e1, e2]
    simp only [c]
    by_cases q : 36028797018963967 < hs t s k
    · rw [if_pos q, if_pos q]
      exact ⟨h1, h2, h3⟩
    · rw [if_neg q, if_neg q]
      refine ⟨?_, by omega, by omega⟩
      rw [h1, show iI (t.2 (s + k)) - 96 = iI (t.2 (s + k) - 96) from iI_sub _ 96, lI_i (by omega)]
      show lI 32 * lI (hs t s k) + lI (t.2 (s + k) - 96) = _
      unfold lI
      rw [← Int64.ofInt_mul, ← Int64.ofInt_add]
def hr : List Int → Int
  | [] => 0
  | u :: r => 32 * hr r + u
theorem hr_p : ∀ r : List Int, (∀ u, u ∈ r → 1 ≤ u ∧ u ≤ 26) → 0 ≤ hr r
  | [], _ => Int.le_refl _
  | u :: r, h => by
    have := hr_p r (fun v hv => h v (List.mem_cons.mpr (Or.inr hv)))
    have := h u (List.mem_cons.mpr (Or.inl rfl))
    show 0 ≤ 32 * hr r + u
    omega
theorem hs_r {t : zXt} {s : Nat} : ∀ (r : List Int), (∀ u, u ∈ r → 1 ≤ u ∧ u ≤ 26) → hr r ≤ 1125899906842624 → ∀ n, (∀ i, i < n → aLt (t.2 (s + i)) = true) → (hs t s n = hr r ↔ n = r.length ∧ ∀ i, i < n → t.2 (s + i) - 96 = r.getD (n - 1 - i) 0)
  | [], _, _, n, h => by
    cases n with
    | zero => exact ⟨fun _ => ⟨rfl, fun i hi => absurd hi (Nat.not_lt_zero i)⟩, fun _ => rfl⟩
    | succ k =>
      have h1 := (hw_s (t := t) (s := s) k (fun i hi => h i (by omega))).2
      have h0 : 97 ≤ t.2 (s + k) ∧ t.2 (s + k) ≤ 122 := of_decide_eq_true (h k (by omega))
      constructor
      · intro q
        have q : (if 36028797018963967 < hs t s k then hs t s k else 32 * hs t s k + (t.2 (s + k) - 96)) = 0 := q
        split at q <;> omega
      · rintro ⟨q, -⟩
        cases q
  | u :: r, hu, hb, n, h => by
    have hb : 32 * hr r + u ≤ 1125899906842624 := hb
    have u1 := hu u (List.mem_cons.mpr (Or.inl rfl))
    have hp := hr_p r (fun v hv => hu v (List.mem_cons.mpr (Or.inr hv)))
    cases n with
    | zero =>
      constructor
      · intro q
        have q : (0 : Int) = 32 * hr r + u := q
        omega
      · rintro ⟨q, -⟩
        cases q
    | succ k =>
      have ih := hs_r (t := t) (s := s) r (fun v hv => hu v (List.mem_cons.mpr (Or.inr hv))) (by omega) k (fun i hi => h i (by omega))
      have h1 := (hw_s (t := t) (s := s) k (fun i hi => h i (by omega))).2
      have h0 : 97 ≤ t.2 (s + k) ∧ t.2 (s + k) ≤ 122 := of_decide_eq_true (h k (by omega))
      have e : hs t s (k + 1) = if 36028797018963967 < hs t s k then hs t s k else 32 * hs t s k + (t.2 (s + k) - 96) := rfl
      have st : hs t s (k + 1) = 32 * hr r + u ↔ hs t s k = hr r ∧ t.2 (s + k) - 96 = u := by
        rw [e]
        split
        · constructor
          · intro q; omega
          · rintro ⟨q1, q2⟩; omega
        · constructor
          · intro q; omega
          · rintro ⟨q1, q2⟩; omega
      show hs t s (k + 1) = 32 * hr r + u ↔ _
      rw [st, ih]
      constructor
      · rintro ⟨⟨q1, q2⟩, q3⟩
        refine ⟨by rw [List.length_cons, q1], fun i hi => ?_⟩
        by_cases e : i = k
        · subst e
          rw [q3, show i + 1 - 1 - i = 0 by omega]; rfl
        · rw [q2 i (by omega), show k + 1 - 1 - i = (k - 1 - i) + 1 by omega]; rfl
      · rintro ⟨q1, q2⟩
        refine ⟨⟨by rw [List.length_cons] at q1; omega, fun i hi => ?_⟩, ?_⟩
        · have := q2 i (by omega)
          rw [show k + 1 - 1 - i = (k - 1 - i) + 1 by omega] at this
          exact this
        · have := q2 k (by omega)
          rw [show k + 1 - 1 - k = 0 by omega] at this
          exact this
def zKw : List Int := [2610408, 7935150, 4697, 15748, 17800118436, 11843827, 441925, 398963, 3764, 294, 14836, 1476, 498, 19504, 763332, 409031, 8892563, 492210354]
def zKr (g : Nat) : List Int := ((zSL.getD g []).map (fun c => c.toInt - 96)).reverse
theorem zKr_c : ∀ g, g < 18 → hr (zKr g) = zKw.getD g 0 ∧ zKw.getD g 0 ≤ 1125899906842624 ∧ (zKr g).length = (zSL.getD g []).length ∧ (∀ u, u ∈ zKr g → 1 ≤ u ∧ u ≤ 26) ∧ ∀ i, i < (zSL.getD g []).length → (zKr g).getD ((zSL.getD g []).length - 1 - i) 0 = ((zSL.getD g []).getD i 0).toInt - 96 := by decide +kernel
theorem aIs_h {t : zXt} {s g : Nat} (w : wT t) (hs0 : s < t.1) (hg : g < 18) (q : aLt (t.2 s) = true) : aIs t s g = true ↔ hs t s (aTe t s - s) = zKw.getD g 0 := by
  obtain ⟨k1, k2, k3, k4, k5⟩ := zKr_c g hg
  have ha := aTe_a q
  have he := aTe_l hs0
  have hl := w.1
  rw [← k1, hs_r (zKr g) k4 (by rw [k1]; exact k2) _ ha, k3]
  unfold aIs
  rw [Bool.and_eq_true, decide_eq_true_iff, aMt_d]
  constructor
  · rintro ⟨h1, h2⟩
    refine ⟨h1, fun i hi => ?_⟩
    have wi := w.2 (s + i) (by omega)
    have := h2 i (by omega)
    rw [h1, k5 i (by omega), ← this, t_iI (by omega)]
  · rintro ⟨h1, h2⟩
    refine ⟨h1, fun i hi => ?_⟩
    have wi := w.2 (s + i) (by omega)
    have := h2 i (by omega)
    rw [h1, k5 i hi] at this
    apply Int32.toInt_inj.mp
    rw [t_iI (by omega)]
    omega
theorem aHs_is {t : zXt} {s g : Nat} (w : wT t) (hs0 : s ≤ t.1) (hg : g < 18) : (lg_cmp (aHs t s) (lI (zKw.getD g 0)) = 0) = (s < t.1 ∧ aLt (t.2 s) = true ∧ aIs t s g = true) := by
  have kp : 1 ≤ zKw.getD g 0 ∧ zKw.getD g 0 ≤ 1125899906842624 := (by decide +kernel : ∀ g, g < 18 → 1 ≤ zKw.getD g 0 ∧ zKw.getD g 0 ≤ 1125899906842624) g hg
  refine propext ?_
  rw [lg_cmp_eq]
  unfold aHs aBt
  by_cases q : s < t.1
  · rw [if_pos q]
    cases q2 : aLt (t.2 s)
    · rw [cond_false]
      constructor
      · intro h
        have := congrArg Int64.toInt h
        rw [lI_tt (by omega), show (0 : Int64).toInt = 0 by decide] at this
        omega
      · rintro ⟨-, h, -⟩
        cases h
    · rw [cond_true, show aTf t s = aTe t s from if_pos q]
      obtain ⟨e1, e2, e3⟩ := hw_s (t := t) (s := s) (aTe t s - s) (aTe_a q2)
      rw [e1, aIs_h w q hg q2]
      constructor
      · intro h
        have := congrArg Int64.toInt h
        rw [lI_tt (by omega), lI_tt (by omega)] at this
        exact ⟨q, rfl, this⟩
      · rintro ⟨-, -, h⟩
        rw [h]
  · rw [if_neg q]
    constructor
    · intro h
      have := congrArg Int64.toInt h
      rw [show (bif aLt (-1) then hw t s (aTf t s - s) else 0) = (0 : Int64) from rfl, lI_tt (by omega), show (0 : Int64).toInt = 0 by decide] at this
      omega
    · rintro ⟨h, -⟩
      exact absurd h q
theorem aRn_f {P : Int → Bool} {t : zXt} : ∀ (n p : Nat), aRn P t n p < p + n → P (t.2 (aRn P t n p)) = false
  | 0, p, h => by have h : p < p + 0 := h; omega
  | n + 1, p, h => by
    have e : aRn P t (n + 1) p = bif P (t.2 p) then aRn P t n (p + 1) else p := rfl
    rw [e] at h ⊢
    cases q : P (t.2 p)
    · rw [cond_false]; exact q
    · rw [q, cond_true] at h
      rw [cond_true]
      exact aRn_f n (p + 1) (by omega)
theorem aTs_n {t : zXt} {p : Nat} (hp : p ≤ t.1) (h : aTs t p < t.1) : t.2 (aTs t p) ≠ 32 := by
  have := aRn_f (P := fun z => decide (z = 32)) (t := t) (t.1 - p) p (by unfold aTs at h; omega)
  exact of_decide_eq_false this
noncomputable def cLp (d : Nat) (b i : Int32) (σ : zM) : zR := zrun (zev (d + 8)) zT_48 32 [some (.inr (.inr (0, 33))), some (.inr (.inr (0, 31))), some (.inl b), some (.inl i)] [] σ
theorem cLp_u {d : Nat} {b i : Int32} {σ : zM} : cLp d b i σ = zrun (zev (d + 8)) zT_48 32 [some (.inr (.inr (0, 33))), some (.inr (.inr (0, 31))), some (.inl b), some (.inl i)] [] σ := rfl
theorem cLp_k {d b : Nat} {t : zXt} {σ : zM} (h : cTp t σ) (w : wT t) : ∀ (n i : Nat), i + n = b → b ≤ t.1 → cLp d (iI b) (iI i) σ = cLp d (iI b) (iI b) σ
  | 0, i, hi, hb => by rw [show i = b by omega]
  | n + 1, i, hi, hb => by
    have hl := w.1
    rw [cLp_u (i := iI i), ez_48_32, h.1, if_pos (by rw [iI_lt (by omega) (by omega)]; omega), if_pos (by rw [iI_lt (by omega) (by omega)]; omega), hki1, ← cLp_u]
    exact cLp_k h w n (i + 1) (by omega) hb
theorem cLp_b {d b : Nat} {t : zXt} {σ : zM} (h : cTp t σ) (w : wT t) : ∀ (n i : Nat), i + n = t.1 → b ≤ i → cLp d (iI b) (iI i) σ = cLp d (iI b) (iI (aRn (fun z => decide (z = 32)) t n i : Nat)) σ
  | 0, i, hi, hb => rfl
  | n + 1, i, hi, hb => by
    have hl := w.1
    have e : aRn (fun z => decide (z = 32)) t (n + 1) i = bif decide (t.2 i = 32) then aRn (fun z => decide (z = 32)) t n (i + 1) else i := rfl
    rw [e]
    by_cases q : t.2 i = 32
    · rw [decide_eq_true q, cond_true, cLp_u (i := iI i), ez_48_32, h.1, if_pos (by rw [iI_lt (by omega) (by omega)]; omega), if_neg (by rw [iI_lt (by omega) (by omega)]; omega), zc76 (d := d + 7) h w (by omega)]
      simp only [zbs, zBi, decide_eq_true q, cond_true, hki1]
      rw [← cLp_u]
      exact cLp_b h w n (i + 1) (by omega) (by omega)
    · rw [decide_eq_false q, cond_false]
theorem cLp_s {d s : Nat} {t : zXt} {σ : zM} (h : cTp t σ) (w : wT t) (hs : s < t.1) : cLp d (iI (aTe t s : Nat)) (iI ((s + 1 : Nat) : Int)) σ = cLp d (iI (aTe t s : Nat)) (iI (aTs t (aTe t s) : Nat)) σ := by
  have he := aTe_l hs
  rw [cLp_k h w (aTe t s - (s + 1)) (s + 1) (by omega) (by omega), cLp_b h w (t.1 - aTe t s) (aTe t s) (by omega) (Nat.le_refl _)]
  rfl
abbrev Wrd : Nat → Nat → Nat → Prop := fun g k _ => (g = 4 ∧ 7 ≤ k ∧ k ≤ 14) ∨ (g = 0 ∧ (k = 33 ∨ k = 34))
theorem cTp_r {t : zXt} {σ τ : zM} (h : cTp t σ) (f : zFr Wrd σ τ) : cTp t τ := cTp_f h (f.1 _ _ _ (by omega)) (zFr_f f (fun i => by omega))
theorem cLp_t {d s b n : Nat} {t : zXt} {σ τ : zM} (h : cTp t σ) (w : wT t) (hs : s < t.1) (h32 : t.2 s ≠ 32) (hb : b ≤ s) (hn : σ.1 4 7 0 = iI n) (hn8 : n < 8) (e49 : zev (d + 8) 49 [.inr (.inr (0, 33)), .inl (iI (aWd t s))] σ = some (1, 0, τ)) (f : zFr Wrd σ τ) : cLp d (iI b) (iI s) σ = cLp d (iI (aTe t s : Nat)) (iI (aTs t (aTe t s) : Nat)) τ := by
  have hl := w.1
  have e8 : (iI (n : Int) < 8) = ((n : Int) < 8) := iI_lt (b := 8) (by omega) (by decide)
  rw [cLp_u, ez_48_32, h.1, if_pos (by rw [iI_lt (by omega) (by omega)]; omega), if_neg (by rw [iI_lt (by omega) (by omega)]; omega)]
  simp only [zc76 (d := d + 7) h w hs, zbs, zBi, decide_eq_false h32, cond_false, zc77 (d := d + 6) h w hs, hn, e8, zc78 (d := d) h w hs, e49, hki1]
  rw [if_pos (by omega), if_neg (by decide), ← cLp_u]
  exact cLp_s (cTp_r h f) w hs
theorem cLp_x {d s b n : Nat} {t : zXt} {σ τ : zM} (h : cTp t σ) (w : wT t) (hs : s < t.1) (h32 : t.2 s ≠ 32) (hb : b ≤ s) (hn : σ.1 4 7 0 = iI n) (hn8 : n < 8) (e49 : zev (d + 8) 49 [.inr (.inr (0, 33)), .inl (iI (aWd t s))] σ = some (0, 0, τ)) : cLp d (iI b) (iI s) σ = some (iI s, 0, τ) := by
  have hl := w.1
  have e8 : (iI (n : Int) < 8) = ((n : Int) < 8) := iI_lt (b := 8) (by omega) (by decide)
  rw [cLp_u, ez_48_32, h.1, if_pos (by rw [iI_lt (by omega) (by omega)]; omega), if_neg (by rw [iI_lt (by omega) (by omega)]; omega)]
  simp only [zc76 (d := d + 7) h w hs, zbs, zBi, decide_eq_false h32, cond_false, zc77 (d := d + 6) h w hs, hn, e8, zc78 (d := d) h w hs, e49]
  rw [if_pos (by omega), if_pos trivial]
theorem cLp_9 {d s b n : Nat} {t : zXt} {σ : zM} (h : cTp t σ) (w : wT t) (hs : s < t.1) (h32 : t.2 s ≠ 32) (hb : b ≤ s) (hn : σ.1 4 7 0 = iI n) (hn8 : ¬ n < 8) (hn9 : n ≤ 8) : cLp d (iI b) (iI s) σ = some (iI s, 0, σ) := by
  have hl := w.1
  have e8 : (iI (n : Int) < 8) = ((n : Int) < 8) := iI_lt (b := 8) (by omega) (by decide)
  rw [cLp_u, ez_48_32, h.1, if_pos (by rw [iI_lt (by omega) (by omega)]; omega), if_neg (by rw [iI_lt (by omega) (by omega)]; omega)]
  simp only [zc76 (d := d + 7) h w hs, zbs, zBi, decide_eq_false h32, cond_false, zc77 (d := d + 6) h w hs, hn, e8]
  rw [if_neg (by omega)]
theorem cLp_e {d b u : Nat} {t : zXt} {σ : zM} (h : cTp t σ) (w : wT t) (hu : σ.1 0 33 1 = iI u) (hu7 : u ≤ 7) : cLp d (iI b) (iI (t.1 : Nat)) σ = some (if u = 0 then -9 else iI (t.1 : Nat), 0, σ) := by
  have hl := w.1
  rw [cLp_u, ez_48_32, h.1, if_neg (by rw [iI_lt (by omega) (by omega)]; omega), hu]
  simp only [iI_0 (show zrn (u : Int) by omega)]
  by_cases q : u = 0
  · rw [if_pos (by omega), if_pos q]
  · rw [if_neg (by omega), if_neg q]
def wMem (σ : zM) : List Int → Prop
  | [] => True
  | u :: R => σ.1 0 34 R.length = iI u ∧ wMem σ R
theorem wMem_f {σ τ : zM} : ∀ {R : List Int}, wMem σ R → (∀ i, i < R.length → τ.1 0 34 i = σ.1 0 34 i) → wMem τ R
  | [], _, _ => trivial
  | u :: R, h, e => ⟨(e R.length (Nat.lt_succ_self _)).trans h.1, wMem_f h.2 (fun i hi => e i (Nat.lt_succ_of_lt hi))⟩
def cMm (c0 o : Nat) (L R : List Int) (σ : zM) : Prop := σ.1 0 33 3 = iI o ∧ σ.1 0 33 4 = iI (c0 + L.length : Nat) ∧ (∀ i, i < L.length → σ.1 4 12 (c0 + i) = iI (L.getD i 0)) ∧ σ.1 0 33 6 = iI (R.length : Nat) ∧ wMem σ R
theorem getD_a {L : List Int} {p : Int} : ∀ {i : Nat}, i < L.length → (L ++ [p]).getD i 0 = L.getD i 0 := by
  induction L with
  | nil => intro i h; exact absurd h (Nat.not_lt_zero i)
  | cons a L ih =>
    intro i h
    cases i with
    | zero => rfl
    | succ i => exact ih (Nat.lt_of_succ_lt_succ h)
theorem getD_e {L : List Int} {p : Int} : (L ++ [p]).getD L.length 0 = p := by
  induction L with
  | nil => rfl
  | cons a L ih => exact ih
abbrev Wst (c0 : Nat) : Nat → Nat → Nat → Prop := fun g k i => (g = 4 ∧ k = 12 ∧ c0 ≤ i) ∨ (g = 0 ∧ k = 33 ∧ i = 4)
abbrev Wsw (c0 : Nat) : Nat → Nat → Nat → Prop := fun g k i => (g = 4 ∧ k = 12 ∧ c0 ≤ i) ∨ (g = 0 ∧ k = 33 ∧ (i = 4 ∨ i = 6))
theorem zc62 {d c0 o : Nat} {L R : List Int} {p : Int} {σ : zM} (h : cMm c0 o L R σ) (hk : c0 + L.length < 200) : ∃ τ, zev (d + 1) 62 [.inr (.inr (0, 33)), .inl (iI p)] σ = some (0, 0, τ) ∧ zFr (Wst c0) σ τ ∧ cMm c0 o (L ++ [p]) R τ := by
  obtain ⟨h1, h2, h3, h4, h5⟩ := h
  have e200 : (iI ((c0 + L.length : Nat) : Int) < 200) = (((c0 + L.length : Nat) : Int) < 200) := iI_lt (b := 200) (by omega) (by decide)
  rw [ez_62, h2]
  simp only [e200]
  rw [if_pos (by omega), zgd_t (iI_ink (z := ((c0 + L.length : Nat) : Int)) (k := c0 + L.length) rfl hk (by decide)), iI_Nn (show c0 + L.length ≤ 2147483647 by omega), zfe (by omega), h2, hki1]
  refine ⟨_, rfl, zFr_tt (zFr_w (by omega)) (zFr_w (by omega)), by rw [zfe (by omega), zfe (by omega)]; exact h1, by rw [zfs, List.length_append]; rfl, fun i hi => ?_, by rw [zfe (by omega), zfe (by omega)]; exact h4, wMem_f h5 (fun i _ => by rw [zfe (by omega), zfe (by omega)])⟩
  rw [List.length_append] at hi
  have hi : i < L.length + 1 := hi
  rw [zfe (by omega)]
  by_cases q : i = L.length
  · subst q
    rw [zfs, getD_e]
  · rw [zfe (by omega), getD_a (by omega)]
    exact h3 i (by omega)
theorem zc60 {d c0 o : Nat} {L R : List Int} {p : Int} {σ : zM} (h : cMm c0 o L R σ) (hk : R.length < 200) : ∃ τ, zev (d + 1) 60 [.inr (.inr (0, 33)), .inl (iI p)] σ = some (0, 0, τ) ∧ zFr (fun g k i => g = 0 ∧ (k = 34 ∨ (k = 33 ∧ i = 6))) σ τ ∧ cMm c0 o L (p :: R) τ := by
  obtain ⟨h1, h2, h3, h4, h5⟩ := h
  have e200 : (iI ((R.length : Nat) : Int) < 200) = (((R.length : Nat) : Int) < 200) := iI_lt (b := 200) (by omega) (by decide)
  rw [ez_60, h4]
  simp only [e200]
  rw [if_pos (by omega), zgd_t (iI_ink (z := ((R.length : Nat) : Int)) (k := R.length) rfl hk (by decide)), iI_Nn (show R.length ≤ 2147483647 by omega), zfe (by omega), h4, hki1]
  refine ⟨_, rfl, zFr_tt (zFr_w (by omega)) (zFr_w (by omega)), by rw [zfe (by omega), zfe (by omega)]; exact h1, by rw [zfe (by omega), zfe (by omega)]; exact h2, fun i hi => by rw [zfe (by omega), zfe (by omega)]; exact h3 i hi, by rw [zfs]; rfl, ?_, wMem_f h5 (fun i hi => by rw [zfe (by omega), zfe (by omega)])⟩
  rw [zfe (by omega), zfs]
def pW (j : Int) : List Int → List Int
  | [] => []
  | u :: R => if j ≤ u then u :: pW j R else []
def dW (j : Int) : List Int → List Int
  | [] => []
  | u :: R => if j ≤ u then dW j R else u :: R
theorem pW_l {j : Int} : ∀ R : List Int, (pW j R).length + (dW j R).length = R.length
  | [] => rfl
  | u :: R => by
    have ih := pW_l (j := j) R
    unfold pW dW
    split
    · rw [List.length_cons, List.length_cons]; omega
    · exact Nat.zero_add _
theorem zc61 {d c0 o : Nat} {j : Int} (hj : zrn j) : ∀ (R L : List Int) (σ : zM), cMm c0 o L R σ → (∀ u, u ∈ R → zrn u) → c0 + L.length + R.length ≤ 200 → ∃ τ, zrun (zev (d + 1)) zT_61 7 [some (.inr (.inr (0, 33))), some (.inl (iI j)), some (.inl (iI ((R.length : Nat) - 1 : Int)))] [] σ = some (0, 0, τ) ∧ zFr (Wsw c0) σ τ ∧ cMm c0 o (L ++ pW j R) (dW j R) τ
  | [], L, σ, h, _, _ => by
    rw [ez_61_7, if_pos (by rw [iI_lt0 (by decide)]; decide)]
    refine ⟨σ, rfl, zFr_r σ, ?_⟩
    show cMm c0 o (L ++ []) [] σ
    rw [List.append_nil]
    exact h
  | u :: R, L, σ, h, hu, hk => by
    have hk : c0 + L.length + (R.length + 1) ≤ 200 := hk
    have hu0 := hu u (List.mem_cons.mpr (Or.inl rfl))
    have ei : iI (((u :: R).length : Nat) - 1 : Int) = iI (R.length : Nat) := by
      rw [List.length_cons]; congr 1; omega
    have h34 : σ.1 0 34 R.length = iI u := h.2.2.2.2.1
    have m1 : iI ((R.length : Nat) : Int) + -1 = iI ((R.length : Nat) - 1 : Int) := by
      rw [zlitm1, iI_add]; congr 1
    rw [ei, ez_61_7, if_neg (by rw [iI_lt0 (by omega)]; omega), zgd_t (iI_ink (z := ((R.length : Nat) : Int)) (k := R.length) rfl (by omega) (by decide)), iI_Nn (show R.length ≤ 2147483647 by omega), h34]
    simp only [iI_lt hu0 hj, m1]
    unfold pW dW
    by_cases q : u < j
    · rw [if_pos q, if_neg (by omega), if_neg (by omega)]
      refine ⟨σ, rfl, zFr_r σ, ?_⟩
      rw [List.append_nil]
      exact h
    · obtain ⟨τ, g1, g2, g3⟩ := zc62 (d := d) (p := u) h (by omega)
      rw [if_neg q, if_pos (by omega), if_pos (by omega), zgd_t (iI_ink (z := ((R.length : Nat) : Int)) (k := R.length) rfl (by omega) (by decide)), g1]
      simp only [zbs]
      have h2 : cMm c0 o (L ++ [u]) R (zwI τ 0 33 6 (iI (R.length : Nat))) := by
        obtain ⟨a1, a2, a3, a4, a5⟩ := g3
        exact ⟨by rw [zfe (by omega)]; exact a1, by rw [zfe (by omega)]; exact a2, fun i hi => by rw [zfe (by omega)]; exact a3 i hi, zfs, wMem_f a5.2 (fun i _ => by rw [zfe (by omega)])⟩
      obtain ⟨υ, y1, y2, y3⟩ := zc61 (d := d) hj R (L ++ [u]) _ h2 (fun v hv => hu v (List.mem_cons.mpr (Or.inr hv))) (by rw [List.length_append]; show c0 + (L.length + 1) + R.length ≤ 200; omega)
      refine ⟨υ, y1, zFr_tt (zFr_tt (zFr_i g2 fun _ _ _ q => by omega) (zFr_w (by omega))) y2, ?_⟩
      rw [List.append_assoc] at y3
      exact y3
theorem zc61e {d c0 o : Nat} {j : Int} {R L : List Int} {σ : zM} (hj : zrn j) (h : cMm c0 o L R σ) (hu : ∀ u, u ∈ R → zrn u) (hk : c0 + L.length + R.length ≤ 200) : ∃ τ, zev (d + 2) 61 [.inr (.inr (0, 33)), .inl (iI j)] σ = some (0, 0, τ) ∧ zFr (Wsw c0) σ τ ∧ cMm c0 o (L ++ pW j R) (dW j R) τ := by
  rw [ez_61, h.2.2.2.1, show iI ((R.length : Nat) : Int) - 1 = iI ((R.length : Nat) - 1 : Int) from iI_sub _ 1]
  exact zc61 hj R L σ h hu hk
def zCd : List Int := [-20, -21, -22, -23, -24, -25, -16, -17, -18, -15, -9, -10, -11, -1, -2, -3, -4, -5]
theorem aNwd_i (m : Nat → Bool) : (∃ i, i < 18 ∧ m i = true ∧ aNwd m = zCd.getD i 0) ∨ ((∀ i, i < 18 → m i = false) ∧ aNwd m = -30) := by
  unfold aNwd
  by_cases q0 : m 0 = true
  · rw [if_pos q0]; exact Or.inl ⟨0, by decide, q0, rfl⟩
  rw [if_neg q0]
  by_cases q1 : m 1 = true
  · rw [if_pos q1]; exact Or.inl ⟨1, by decide, q1, rfl⟩
  rw [if_neg q1]
  by_cases q2 : m 2 = true
  · rw [if_pos q2]; exact Or.inl ⟨2, by decide, q2, rfl⟩
  rw [if_neg q2]
  by_cases q3 : m 3 = true
  · rw [if_pos q3]; exact Or.inl ⟨3, by decide, q3, rfl⟩
  rw [if_neg q3]
  by_cases q4 : m 4 = true
  · rw [if_pos q4]; exact Or.inl ⟨4, by decide, q4, rfl⟩
  rw [if_neg q4]
  by_cases q5 : m 5 = true
  · rw [if_pos q5]; exact Or.inl ⟨5, by decide, q5, rfl⟩
  rw [if_neg q5]
  by_cases q6 : m 6 = true
  · rw [if_pos q6]; exact Or.inl ⟨6, by decide, q6, rfl⟩
  rw [if_neg q6]
  by_cases q7 : m 7 = true
  · rw [if_pos q7]; exact Or.inl ⟨7, by decide, q7, rfl⟩
  rw [if_neg q7]
  by_cases q8 : m 8 = true
  · rw [if_pos q8]; exact Or.inl ⟨8, by decide, q8, rfl⟩
  rw [if_neg q8]
  by_cases q9 : m 9 = true
  · rw [if_pos q9]; exact Or.inl ⟨9, by decide, q9, rfl⟩
  rw [if_neg q9]
  by_cases q10 : m 10 = true
  · rw [if_pos q10]; exact Or.inl ⟨10, by decide, q10, rfl⟩
  rw [if_neg q10]
  by_cases q11 : m 11 = true
  · rw [if_pos q11]; exact Or.inl ⟨11, by decide, q11, rfl⟩
  rw [if_neg q11]
  by_cases q12 : m 12 = true
  · rw [if_pos q12]; exact Or.inl ⟨12, by decide, q12, rfl⟩
  rw [if_neg q12]
  by_cases q13 : m 13 = true
  · rw [if_pos q13]; exact Or.inl ⟨13, by decide, q13, rfl⟩
  rw [if_neg q13]
  by_cases q14 : m 14 = true
  · rw [if_pos q14]; exact Or.inl ⟨14, by decide, q14, rfl⟩
  rw [if_neg q14]
  by_cases q15 : m 15 = true
  · rw [if_pos q15]; exact Or.inl ⟨15, by decide, q15, rfl⟩
  rw [if_neg q15]
  by_cases q16 : m 16 = true
  · rw [if_pos q16]; exact Or.inl ⟨16, by decide, q16, rfl⟩
  rw [if_neg q16]
  by_cases q17 : m 17 = true
  · rw [if_pos q17]; exact Or.inl ⟨17, by decide, q17, rfl⟩
  rw [if_neg q17]
  refine Or.inr ⟨fun i hi => ?_, rfl⟩
  have e : ∀ {j : Nat}, ¬ m j = true → m j = false := fun {j} h => Bool.eq_false_iff.mpr h
  rcases (by omega : i = 0 ∨ i = 1 ∨ i = 2 ∨ i = 3 ∨ i = 4 ∨ i = 5 ∨ i = 6 ∨ i = 7 ∨ i = 8 ∨ i = 9 ∨ i = 10 ∨ i = 11 ∨ i = 12 ∨ i = 13 ∨ i = 14 ∨ i = 15 ∨ i = 16 ∨ i = 17) with rfl | rfl | rfl | rfl | rfl | rfl | rfl | rfl | rfl | rfl | rfl | rfl | rfl | rfl | rfl | rfl | rfl | rfl
  · exact e q0
  · exact e q1
  · exact e q2
  · exact e q3
  · exact e q4
  · exact e q5
  · exact e q6
  · exact e q7
  · exact e q8
  · exact e q9
  · exact e q10
  · exact e q11
  · exact e q12
  · exact e q13
  · exact e q14
  · exact e q15
  · exact e q16
  · exact e q17
theorem zKw_i : ∀ g, g < 18 → ∀ i, i < 18 → zKw.getD g 0 = zKw.getD i 0 → g = i := by decide +kernel
theorem zCd_i : ∀ g, g < 18 → ∀ i, i < 18 → zCd.getD g 0 = zCd.getD i 0 → g = i := by decide +kernel
theorem zCd_s : ∀ g, g < 18 → zCd.getD g 0 < 0 ∧ zCd.getD g 0 ≠ -30 ∧ zCd.getD g 0 ≠ -12 ∧ zCd.getD g 0 ≠ -13 ∧ zCd.getD g 0 ≠ -14 ∧ zCd.getD g 0 ≠ -6 ∧ zCd.getD g 0 ≠ -7 ∧ zCd.getD g 0 ≠ -8 := by decide +kernel
def aWe (t : zXt) (s : Nat) : Int := if s < t.1 then aWd t s else -99
theorem aSg_v (z : Int) : aSg z = -30 ∨ aSg z = -12 ∨ aSg z = -13 ∨ aSg z = -14 ∨ aSg z = -6 ∨ aSg z = -7 ∨ aSg z = -8 := by
  unfold aSg
  repeat' split
  all_goals omega
theorem aWe_k {t : zXt} {s g : Nat} (w : wT t) (hs0 : s ≤ t.1) (hg : g < 18) : (lg_cmp (aHs t s) (lI (zKw.getD g 0)) = 0) = (aWe t s = zCd.getD g 0) := by
  rw [aHs_is w hs0 hg]
  have hc := zCd_s g hg
  refine propext ?_
  unfold aWe
  by_cases q : s < t.1
  · rw [if_pos q]
    unfold aWd
    cases q2 : aLt (t.2 s)
    · rw [cond_false]
      constructor
      · rintro ⟨-, h, -⟩; cases h
      · intro h
        exfalso
        cases q3 : aDg (t.2 s)
        · rw [q3, cond_false] at h
          rcases aSg_v (t.2 s) with e | e | e | e | e | e | e <;> omega
        · rw [q3, cond_true] at h
          have := (aNv_r (t := t) (s := s) (aTe t s - s) (aTe_d q2 q3)).1
          split at h <;> omega
    · rw [cond_true]
      constructor
      · rintro ⟨-, -, h⟩
        rcases aNwd_i (aIs t s) with ⟨i, i1, i2, i3⟩ | ⟨h2, -⟩
        · have a := (aIs_h w q hg q2).mp h
          have b := (aIs_h w q i1 q2).mp i2
          rw [i3, zKw_i g hg i i1 (a.symm.trans b)]
        · rw [h2 g hg] at h; cases h
      · intro h
        rcases aNwd_i (aIs t s) with ⟨i, i1, i2, i3⟩ | ⟨-, h2⟩
        · rw [i3] at h
          rw [← zCd_i i i1 g hg h]
          exact ⟨q, rfl, i2⟩
        · omega
  · rw [if_neg q]
    constructor
    · rintro ⟨h, -⟩; exact absurd h q
    · intro h
      exfalso
      have := (by decide +kernel : ∀ g, g < 18 → zCd.getD g 0 ≠ -99) g hg
      omega
theorem zm239 {d s : Nat} {t : zXt} {σ : zM} (w : wT t) (h : mTk t s (aTf t s) σ) (hs0 : s ≤ t.1) (hF : σ.1 0 60 24 = zB false) : zev (d + 5) 239 [.inr (.inr (0, 60))] σ = some (iI (if -25 ≤ aWe t s ∧ aWe t s ≤ -20 then -20 - aWe t s else -1), 0, σ) := by
  have k := fun g hg => aWe_k (g := g) w hs0 hg
  have k0 : (lg_cmp (aHs t s) 2610408 = 0) = (aWe t s = -20) := k 0 (by decide)
  have k1 : (lg_cmp (aHs t s) 7935150 = 0) = (aWe t s = -21) := k 1 (by decide)
  have k2 : (lg_cmp (aHs t s) 4697 = 0) = (aWe t s = -22) := k 2 (by decide)
  have k3 : (lg_cmp (aHs t s) 15748 = 0) = (aWe t s = -23) := k 3 (by decide)
  have k4 : (lg_cmp (aHs t s) 17800118436 = 0) = (aWe t s = -24) := k 4 (by decide)
  have k5 : (lg_cmp (aHs t s) 11843827 = 0) = (aWe t s = -25) := k 5 (by decide)
  rw [ez_239]
  simp only [zm237 (d := d) w h hs0 hF, cond_false, zbs, k0, k1, k2, k3, k4, k5]
  generalize aWe t s = z
  by_cases q0 : z = -20
  · subst q0; rfl
  by_cases q1 : z = -21
  · subst q1; rfl
  by_cases q2 : z = -22
  · subst q2; rfl
  by_cases q3 : z = -23
  · subst q3; rfl
  by_cases q4 : z = -24
  · subst q4; rfl
  by_cases q5 : z = -25
  · subst q5; rfl
  rw [if_neg q0, if_neg q1, if_neg q2, if_neg q3, if_neg q4, if_neg q5, if_neg (by omega)]
  rfl
theorem zm240 {d s : Nat} {t : zXt} {F : Bool} {σ : zM} (w : wT t) (h : mTk t s (aTf t s) σ) (hs0 : s ≤ t.1) (hF : σ.1 0 60 24 = zB F) : zev (d + 5) 240 [.inr (.inr (0, 60))] σ = some (iI (if F = false ∧ -5 ≤ aWe t s ∧ aWe t s ≤ -1 then aWe t s else 0), 0, σ) := by
  have k := fun g hg => aWe_k (g := g) w hs0 hg
  have k0 : (lg_cmp (aHs t s) 19504 = 0) = (aWe t s = -1) := k 13 (by decide)
  have k1 : (lg_cmp (aHs t s) 763332 = 0) = (aWe t s = -2) := k 14 (by decide)
  have k2 : (lg_cmp (aHs t s) 409031 = 0) = (aWe t s = -3) := k 15 (by decide)
  have k3 : (lg_cmp (aHs t s) 8892563 = 0) = (aWe t s = -4) := k 16 (by decide)
  have k4 : (lg_cmp (aHs t s) 492210354 = 0) = (aWe t s = -5) := k 17 (by decide)
  rw [ez_240]
  simp only [zm237 (d := d) w h hs0 hF, zbs]
  cases F
  · simp only [cond_false, k0, k1, k2, k3, k4]
    generalize aWe t s = z
    by_cases q0 : z = -1
    · subst q0; rfl
    by_cases q1 : z = -2
    · subst q1; rfl
    by_cases q2 : z = -3
    · subst q2; rfl
    by_cases q3 : z = -4
    · subst q3; rfl
    by_cases q4 : z = -5
    · subst q4; rfl
    rw [if_neg q0, if_neg q1, if_neg q2, if_neg q3, if_neg q4, if_neg (fun y => by omega)]
    rfl
  · simp only [cond_true]
    rw [if_neg (show ¬ lg_cmp 0 19504 = 0 by decide), if_neg (show ¬ lg_cmp 0 763332 = 0 by decide), if_neg (show ¬ lg_cmp 0 409031 = 0 by decide), if_neg (show ¬ lg_cmp 0 8892563 = 0 by decide), if_neg (show ¬ lg_cmp 0 492210354 = 0 by decide), if_neg (show ¬ (true = false ∧ -5 ≤ aWe t s ∧ aWe t s ≤ -1) from fun z => by cases z.1)]
    rfl
theorem aDL {z : Int} (h : aDg z = true) : aLt z = false := by
  have h : 48 ≤ z ∧ z ≤ 57 := of_decide_eq_true h
  exact decide_eq_false (by omega)
theorem aWe_n {t : zXt} {s : Nat} : (0 ≤ aWe t s ↔ aDg (aBt t s) = true ∧ aTf t s - s ≤ 4) ∧ (0 ≤ aWe t s → s < t.1 ∧ aWe t s = aNv t s (aTf t s - s) ∧ aWe t s ≤ 9999) := by
  unfold aWe aBt
  by_cases q : s < t.1
  · rw [if_pos q, if_pos q, show aTf t s = aTe t s from if_pos q]
    unfold aWd
    cases q2 : aLt (t.2 s)
    · rw [cond_false]
      cases q3 : aDg (t.2 s)
      · rw [cond_false]
        have := aSg_v (t.2 s)
        refine ⟨⟨fun h => by omega, fun h => by cases h.1⟩, fun h => by omega⟩
      · rw [cond_true]
        have hv := aNv_r (t := t) (s := s) (aTe t s - s) (aTe_d q2 q3)
        by_cases q4 : 4 < aTe t s - s
        · rw [if_pos q4]
          exact ⟨⟨fun h => by omega, fun h => by omega⟩, fun h => by omega⟩
        · rw [if_neg q4]
          refine ⟨⟨fun _ => ⟨rfl, by omega⟩, fun _ => hv.1⟩, fun _ => ⟨q, rfl, ?_⟩⟩
          have hp : (10 : Int) ^ (aTe t s - s) ≤ 10 ^ 4 := by
            rcases (by omega : aTe t s - s = 0 ∨ aTe t s - s = 1 ∨ aTe t s - s = 2 ∨ aTe t s - s = 3 ∨ aTe t s - s = 4) with e | e | e | e | e <;> rw [e] <;> decide
          have : (10 : Int) ^ 4 = 10000 := by decide
          omega
    · rw [cond_true]
      have hn : aNwd (aIs t s) < 0 := by
        rcases aNwd_i (aIs t s) with ⟨i, i1, i2, i3⟩ | ⟨-, h2⟩
        · have := (zCd_s i i1).1; omega
        · omega
      refine ⟨⟨fun h => by omega, fun h => ?_⟩, fun h => by omega⟩
      rw [aDL h.1] at q2; cases q2
  · rw [if_neg q, if_neg q]
    exact ⟨⟨fun h => by omega, fun h => by cases h.1⟩, fun h => by omega⟩
abbrev Wnm : Nat → Nat → Nat → Prop := fun g k i => g = 0 ∧ k = 60 ∧ (i = 19 ∨ i = 20 ∨ i = 21 ∨ i = 24)
theorem mTk_21 {t : zXt} {s e : Nat} {v : Int32} {σ : zM} (h : mTk t s e σ) : mTk t s e (zwI σ 0 60 21 v) := ⟨⟨by rw [zfe (by omega)]; exact h.1.1, fun i hi => by rw [zfe (by omega)]; exact h.1.2 i hi⟩, by rw [zfe (by omega)]; exact h.2.1, by rw [zfe (by omega)]; exact h.2.2⟩
theorem zm238 {d s : Nat} {a : Int} {t : zXt} {σ : zM} (w : wT t) (h : mTk t s (aTf t s) σ) (hs0 : s ≤ t.1) (hF : σ.1 0 60 24 = zB false) (ha : 0 ≤ a ∧ a ≤ 9999) : ∃ τ, zev (d + 6) 238 [.inr (.inr (0, 60)), .inl (iI a)] σ = some (0, 0, τ) ∧ zFr Wnm σ τ ∧ (0 ≤ aWe t s ∧ aWe t s ≤ a → mTk t (aTs t (aTf t s)) (aTf t (aTs t (aTf t s))) τ ∧ τ.1 0 60 24 = zB false ∧ τ.1 0 60 21 = iI (aWe t s)) ∧ (¬ (0 ≤ aWe t s ∧ aWe t s ≤ a) → mTk t s (aTf t s) τ ∧ τ.1 0 60 24 = zB true) := by
  have hl := w.1
  have hb := aBt_r w s
  have he := aTf_l hs0
  obtain ⟨n1, n2⟩ := aWe_n (t := t) (s := s)
  have e5 : (iI ((aTf t s : Nat) : Int) - iI (s : Int) < 5) = (((aTf t s : Nat) : Int) - s < 5) := by
    rw [iI_sub]; exact iI_lt (b := 5) (by omega) (by decide)
  have hz := mTk_21 (v := 0) h
  have hzF : (zwI σ 0 60 21 0).1 0 60 24 = zB false := by rw [zfe (by omega)]; exact hF
  have no : ∀ τ, mTk t s (aTf t s) τ → τ.1 0 60 24 = zB false → ∃ υ, zev (d + 5) 236 [.inr (.inr (0, 60)), .inl 0] τ = some (0, 0, υ) ∧ zFr Wnm τ υ ∧ mTk t s (aTf t s) υ ∧ υ.1 0 60 24 = zB true := fun τ h1 h2 => ⟨_, zm236f (d := d + 4) h2, zFr_w (by omega), mTk_24 h1, by rw [zfs]; rfl⟩
  have bad : ∀ a3, ∃ υ, zrun (zev (d + 5)) zT_238 43 [some (.inr (.inr (0, 60))), some (.inl (iI a)), some (.inl 0), some (.inl a3)] [] (zwI σ 0 60 21 0) = some (0, 0, υ) ∧ zFr Wnm σ υ ∧ mTk t s (aTf t s) υ ∧ υ.1 0 60 24 = zB true := fun a3 => by
    obtain ⟨υ, y1, y2, y3, y4⟩ := no _ hz hzF
    refine ⟨υ, ?_, zFr_tt (zFr_w (by omega)) y2, y3, y4⟩
    rw [ez_238_43]
    simp only [y1, zbs, if_true]
    split <;> rfl
  have h19 : (zwI σ 0 60 21 0).1 0 60 19 = iI s := hz.2.1
  rw [ez_238]
  simp only [h.2.1, h.2.2, zm232 (d := d + 4) h.1 w (show s ≤ 1000 by omega), zbs, zm234 (d := d + 3) (show zrn (aBt t s) by omega), zBi, e5, h19]
  by_cases q : 0 ≤ aWe t s
  case neg =>
    have neg : ¬ (0 ≤ aWe t s ∧ aWe t s ≤ a) := fun z => q z.1
    have fin : ∃ τ, zrun (zev (d + 5)) zT_238 43 [some (.inr (.inr (0, 60))), some (.inl (iI a)), some (.inl 0), some (.inl (iI s))] [] (zwI σ 0 60 21 0) = some (0, 0, τ) ∧ zFr Wnm σ τ ∧ (0 ≤ aWe t s ∧ aWe t s ≤ a → mTk t (aTs t (aTf t s)) (aTf t (aTs t (aTf t s))) τ ∧ τ.1 0 60 24 = zB false ∧ τ.1 0 60 21 = iI (aWe t s)) ∧ (¬ (0 ≤ aWe t s ∧ aWe t s ≤ a) → mTk t s (aTf t s) τ ∧ τ.1 0 60 24 = zB true) := by
      obtain ⟨υ, y1, y2, y3⟩ := bad (iI s)
      exact ⟨υ, y1, y2, fun z => absurd z neg, fun _ => y3⟩
    cases q2 : aDg (aBt t s)
    · exact fin
    · rw [cond_true]
      rw [if_neg (fun z => q (n1.mpr ⟨q2, by omega⟩))]
      exact fin
  case pos =>
    obtain ⟨q2, q3⟩ := n1.mp q
    obtain ⟨v1, v2, v3⟩ := n2 q
    rw [q2, cond_true, if_pos (by omega)]
    have hdg : ∀ i, i < aTf t s - s → aDg (t.2 (s + i)) = true := by
      have e0 : aBt t s = t.2 s := if_pos v1
      rw [e0] at q2
      have := aTe_d (aDL q2) q2
      rwa [show aTf t s = aTe t s from if_pos v1]
    have key : ∀ (n k : Nat) (τ : zM), k + n = aTf t s - s → mTk t s (aTf t s) τ → τ.1 0 60 24 = zB false → τ.1 0 60 21 = iI (aNv t s k) → ∃ υ, zrun (zev (d + 5)) zT_238 43 [some (.inr (.inr (0, 60))), some (.inl (iI a)), some (.inl 1), some (.inl (iI ((s + k : Nat) : Int)))] [] τ = some (0, 0, υ) ∧ zFr Wnm τ υ ∧ (0 ≤ aWe t s ∧ aWe t s ≤ a → mTk t (aTs t (aTf t s)) (aTf t (aTs t (aTf t s))) υ ∧ υ.1 0 60 24 = zB false ∧ υ.1 0 60 21 = iI (aWe t s)) ∧ (¬ (0 ≤ aWe t s ∧ aWe t s ≤ a) → mTk t s (aTf t s) υ ∧ υ.1 0 60 24 = zB true) := by
      intro n
      induction n with
      | zero =>
        intro k τ hk h1 h2 h3
        have ek : k = aTf t s - s := by omega
        rw [ek, ← v2] at h3
        rw [ez_238_43, h1.2.2, if_neg (by rw [iI_lt (by omega) (by omega)]; omega), if_neg (by decide), h3]
        simp only [iI_lt (show zrn a by omega) (show zrn (aWe t s) by omega)]
        by_cases q4 : a < aWe t s
        · obtain ⟨υ, y1, y2, y3⟩ := no τ h1 h2
          rw [if_pos q4, y1]
          exact ⟨υ, rfl, y2, fun z => by omega, fun _ => y3⟩
        · obtain ⟨υ, y1, y2, y3, y4⟩ := zm236t (d := d) w h1 he.2 h2
          rw [if_neg q4, y1]
          exact ⟨υ, rfl, zFr_i y2 fun _ _ _ q => by omega, fun _ => ⟨y3, y4, (y2.1 _ _ _ (by omega)).trans h3⟩, fun z => absurd ⟨q, by omega⟩ z⟩
      | succ n ih =>
        intro k τ hk h1 h2 h3
        have dk : 48 ≤ t.2 (s + k) ∧ t.2 (s + k) ≤ 57 := of_decide_eq_true (hdg k (by omega))
        have ev : 10 * iI (aNv t s k) + iI (t.2 (s + k)) - 48 = iI (aNv t s (k + 1)) := by
          show iI 10 * iI (aNv t s k) + iI (t.2 (s + k)) - iI 48 = _
          rw [iI_mul, iI_add, iI_sub]
          congr 1
          show _ = aNv t s k * 10 + (t.2 (s + k) - 48)
          omega
        have i0 : ∀ {τ : zM} {v : Int32}, zFr Wnm τ (zwI τ 0 60 21 v) := fun {τ v} => zFr_w (by omega)
        rw [ez_238_43, h1.2.2, if_pos (by rw [iI_lt (by omega) (by omega)]; omega), if_neg (by decide), zgd_t (iI_ink (z := ((s + k : Nat) : Int)) (k := s + k) rfl (show s + k < 200 by omega) (by decide)), iI_Nn (show s + k ≤ 2147483647 by omega), h1.1.2 (s + k) (by omega), h3, ev, hki1]
        obtain ⟨υ, y1, y2, y3⟩ := ih (k + 1) _ (by omega) (mTk_21 h1) (by rw [zfe (by omega)]; exact h2) zfs
        exact ⟨υ, y1, zFr_tt i0 y2, y3⟩
    obtain ⟨υ, y1, y2, y3⟩ := key (aTf t s - s) 0 (zwI σ 0 60 21 0) (by omega) hz hzF (by rw [zfs]; rfl)
    exact ⟨υ, y1, zFr_tt (zFr_w (by omega)) y2, y3⟩
def mMm (m o : Nat) (S : zS) (σ : zM) : Prop := σ.1 0 60 22 = iI o ∧ σ.1 0 60 23 = iI m ∧ mS 61 S σ
abbrev Wmp : Nat → Nat → Nat → Prop := fun g k i => g = 0 ∧ ((k = 60 ∧ 19 ≤ i ∧ i ≤ 24) ∨ (k = 61 ∧ 120 ≤ i))
theorem mMm_f {m o : Nat} {S : zS} {σ τ : zM} (h : mMm m o S σ) (f : zFr Wfl σ τ) : mMm m o S τ := ⟨(f.1 _ _ _ (by omega)).trans h.1, (f.1 _ _ _ (by omega)).trans h.2.1, mS_f h.2.2 (zFr_f f (fun i => by omega))⟩
theorem mMm_n {m o : Nat} {S : zS} {σ τ : zM} (h : mMm m o S σ) (f : zFr Wnm σ τ) : mMm m o S τ := ⟨(f.1 _ _ _ (by omega)).trans h.1, (f.1 _ _ _ (by omega)).trans h.2.1, mS_f h.2.2 (zFr_f f (fun i => by omega))⟩
def mOk (t : zXt) (s m o : Nat) (S : zS) (σ : zM) : Prop := mTk t s (aTf t s) σ ∧ σ.1 0 60 24 = zB false ∧ mMm m o S σ
def mBd (t : zXt) (s o : Nat) (σ : zM) : Prop := mTk t s (aTf t s) σ ∧ σ.1 0 60 24 = zB true ∧ σ.1 0 60 22 = iI o
theorem zm241 {d s m o : Nat} {t : zXt} {S : zS} {p : Int} {σ : zM} (h : mOk t s m o S σ) (hk : m < 200) : ∃ τ, zev (d + 1) 241 [.inr (.inr (0, 60)), .inl (iI p)] σ = some (0, 0, τ) ∧ zFr Wmp σ τ ∧ mOk t s (m + 1) o (zup S (120 + m) p) τ := by
  obtain ⟨h1, h2, h3, h4, h5⟩ := h
  have e1 : (120 : Int32) + iI (m : Int) = iI ((120 + m : Nat) : Int) := by
    show iI 120 + iI _ = _
    rw [iI_add]; congr 1
  rw [ez_241]
  simp only [h2, zBi, cond_false, h4, e1]
  rw [zgd_t (iI_ink (z := ((120 + m : Nat) : Int)) (k := 120 + m) rfl (show 120 + m < 320 by omega) (by decide)), iI_Nn (show 120 + m ≤ 2147483647 by omega), zfe (by omega), h4, hki1]
  refine ⟨_, rfl, zFr_tt (zFr_w (by omega)) (zFr_w (by omega)), ⟨⟨by rw [zfe (by omega), zfe (by omega)]; exact h1.1.1, fun i hi => by rw [zfe (by omega), zfe (by omega)]; exact h1.1.2 i hi⟩, by rw [zfe (by omega), zfe (by omega)]; exact h1.2.1, by rw [zfe (by omega), zfe (by omega)]; exact h1.2.2⟩, by rw [zfe (by omega), zfe (by omega)]; exact h2, by rw [zfe (by omega), zfe (by omega)]; exact h3, zfs, mS_f (mS_w h5) (zfn (by omega))⟩
theorem zm241x {d : Nat} {p : Int32} {σ : zM} (hF : σ.1 0 60 24 = zB true) : zev (d + 1) 241 [.inr (.inr (0, 60)), .inl p] σ = some (0, 0, σ) := by
  rw [ez_241]
  simp only [hF, zBi, cond_true]
theorem zm242 {d s m o : Nat} {t : zXt} {S : zS} {σ : zM} (w : wT t) (h : mOk t s m o S σ) (hs0 : s ≤ t.1) (hk : m < 200) : ∃ τ, zev (d + 7) 242 [.inr (.inr (0, 60))] σ = some (0, 0, τ) ∧ zFr Wmp σ τ ∧ (-5 ≤ aWe t s → mOk t (aTs t (aTf t s)) (m + 1) o (zup S (120 + m) (aWe t s)) τ) ∧ (¬ -5 ≤ aWe t s → mBd t s o τ) := by
  have hl := w.1
  have he := aTf_l hs0
  have e40 : zev (d + 6) 240 [.inr (.inr (0, 60))] σ = some (iI (if -5 ≤ aWe t s ∧ aWe t s ≤ -1 then aWe t s else 0), 0, σ) := by
    rw [zm240 (d := d + 1) w h.1 hs0 h.2.1]
    congr 3
    by_cases q : -5 ≤ aWe t s ∧ aWe t s ≤ -1
    · rw [if_pos q, if_pos ⟨rfl, q⟩]
    · rw [if_neg q, if_neg (fun z => q z.2)]
  rw [ez_242]
  simp only [e40, zbs]
  by_cases q : -5 ≤ aWe t s ∧ aWe t s ≤ -1
  · rw [if_pos q, if_pos (by rw [iI_lt0 (by omega)]; omega)]
    obtain ⟨τ, g1, g2, g3, g4⟩ := zm236t (d := d + 1) w h.1 he.2 h.2.1
    obtain ⟨υ, y1, y2, y3⟩ := zm241 (d := d + 5) (p := aWe t s) (t := t) (s := aTs t (aTf t s)) (σ := τ) ⟨g3, g4, mMm_f h.2.2 g2⟩ hk
    rw [g1]
    simp only [zbs, y1]
    exact ⟨υ, rfl, zFr_tt (zFr_i g2 fun _ _ _ q => by omega) y2, fun _ => y3, fun z => absurd q.1 z⟩
  · rw [if_neg q, if_neg (by decide), h.2.1]
    simp only [zBi, cond_false]
    obtain ⟨τ, g1, g2, g3, g4⟩ := zm238 (d := d) (a := 9999) w h.1 hs0 h.2.1 (by omega)
    have g1 : zev (d + 6) 238 [.inr (.inr (0, 60)), .inl 9999] σ = _ := g1
    have n2 := (aWe_n (t := t) (s := s)).2
    rw [g1]
    simp only [zbs]
    by_cases q2 : 0 ≤ aWe t s
    · obtain ⟨a1, a2, a3⟩ := g3 ⟨q2, (n2 q2).2.2⟩
      obtain ⟨υ, y1, y2, y3⟩ := zm241 (d := d + 5) (p := aWe t s) (t := t) (s := aTs t (aTf t s)) (σ := τ) ⟨a1, a2, mMm_n h.2.2 g2⟩ hk
      rw [a3, y1]
      exact ⟨υ, rfl, zFr_tt (zFr_i g2 fun _ _ _ q => by omega) y2, fun _ => y3, fun z => absurd (by omega) z⟩
    · obtain ⟨a1, a2⟩ := g4 (fun z => q2 z.1)
      rw [zm241x (d := d + 5) a2]
      exact ⟨τ, rfl, zFr_i g2 fun _ _ _ q => by omega, fun z => by omega, fun _ => ⟨a1, a2, (g2.1 _ _ _ (by omega)).trans h.2.2.1⟩⟩
theorem zm242x {d s : Nat} {t : zXt} {σ : zM} (w : wT t) (h : mTk t s (aTf t s) σ) (hs0 : s ≤ t.1) (hF : σ.1 0 60 24 = zB true) : zev (d + 6) 242 [.inr (.inr (0, 60))] σ = some (0, 0, σ) := by
  have e40 : zev (d + 5) 240 [.inr (.inr (0, 60))] σ = some (0, 0, σ) := by
    rw [zm240 (d := d) w h hs0 hF]
    rw [if_neg (fun z => by cases z.1)]; rfl
  rw [ez_242]
  simp only [e40, zbs, hF, zBi, cond_true]
  rw [if_neg (by decide)]
def nx (t : zXt) (s : Nat) : Nat := aTs t (aTf t s)
theorem nx_l {t : zXt} {s : Nat} (h : s ≤ t.1) : s ≤ nx t s ∧ nx t s ≤ t.1 := by
  have h1 := aTf_l h
  have h2 := aTs_l h1.2
  unfold nx
  omega
theorem aWe_g {t : zXt} {s : Nat} {z c : Int} (hz : aLt z = false) (hz2 : aDg z = false) (h0 : 0 ≤ z) (hc : aSg z = c) (hi : ∀ y, aSg y = c → y = z) (hn : c < 0) (hk : ∀ g, g < 18 → zCd.getD g 0 ≠ c) (h30 : c ≠ -30) (h99 : c ≠ -99) : (aBt t s = z) = (aWe t s = c) := by
  refine propext ?_
  unfold aBt aWe
  by_cases q : s < t.1
  · rw [if_pos q, if_pos q]
    unfold aWd
    constructor
    · intro h
      rw [h, hz, hz2, cond_false, cond_false]; exact hc
    · intro h
      cases q2 : aLt (t.2 s)
      · rw [q2, cond_false] at h
        cases q3 : aDg (t.2 s)
        · rw [q3, cond_false] at h
          exact hi _ h
        · rw [q3, cond_true] at h
          have := (aNv_r (t := t) (s := s) (aTe t s - s) (aTe_d q2 q3)).1
          split at h <;> omega
      · rw [q2, cond_true] at h
        rcases aNwd_i (aIs t s) with ⟨i, i1, i2, i3⟩ | ⟨-, h2⟩
        · exact absurd (i3.symm.trans h) (hk i i1)
        · omega
  · rw [if_neg q, if_neg q]
    constructor
    · intro h; omega
    · intro h; omega
theorem aSg_u (y : Int) : (aSg y = -12 → y = 40) ∧ (aSg y = -13 → y = 41) ∧ (aSg y = -14 → y = 59) ∧ (aSg y = -6 → y = 60) ∧ (aSg y = -7 → y = 61) ∧ (aSg y = -8 → y = 62) := by
  unfold aSg
  by_cases q1 : y = 40
  · rw [if_pos q1]; refine ⟨fun h => ?_, fun h => ?_, fun h => ?_, fun h => ?_, fun h => ?_, fun h => ?_⟩ <;> omega
  rw [if_neg q1]
  by_cases q2 : y = 41
  · rw [if_pos q2]; refine ⟨fun h => ?_, fun h => ?_, fun h => ?_, fun h => ?_, fun h => ?_, fun h => ?_⟩ <;> omega
  rw [if_neg q2]
  by_cases q3 : y = 59
  · rw [if_pos q3]; refine ⟨fun h => ?_, fun h => ?_, fun h => ?_, fun h => ?_, fun h => ?_, fun h => ?_⟩ <;> omega
  rw [if_neg q3]
  by_cases q4 : y = 60
  · rw [if_pos q4]; refine ⟨fun h => ?_, fun h => ?_, fun h => ?_, fun h => ?_, fun h => ?_, fun h => ?_⟩ <;> omega
  rw [if_neg q4]
  by_cases q5 : y = 61
  · rw [if_pos q5]; refine ⟨fun h => ?_, fun h => ?_, fun h => ?_, fun h => ?_, fun h => ?_, fun h => ?_⟩ <;> omega
  rw [if_neg q5]
  by_cases q6 : y = 62
  · rw [if_pos q6]; refine ⟨fun h => ?_, fun h => ?_, fun h => ?_, fun h => ?_, fun h => ?_, fun h => ?_⟩ <;> omega
  rw [if_neg q6]
  refine ⟨fun h => ?_, fun h => ?_, fun h => ?_, fun h => ?_, fun h => ?_, fun h => ?_⟩ <;> omega
theorem aWe_60 {t : zXt} {s : Nat} : (aBt t s = 60) = (aWe t s = -6) := aWe_g (by decide) (by decide) (by decide) (by decide) (fun y h => (aSg_u y).2.2.2.1 h) (by decide) (by decide +kernel) (by decide) (by decide)
theorem aWe_61 {t : zXt} {s : Nat} : (aBt t s = 61) = (aWe t s = -7) := aWe_g (by decide) (by decide) (by decide) (by decide) (fun y h => (aSg_u y).2.2.2.2.1 h) (by decide) (by decide +kernel) (by decide) (by decide)
theorem aWe_62 {t : zXt} {s : Nat} : (aBt t s = 62) = (aWe t s = -8) := aWe_g (by decide) (by decide) (by decide) (by decide) (fun y h => (aSg_u y).2.2.2.2.2 h) (by decide) (by decide +kernel) (by decide) (by decide)
theorem aWe_40 {t : zXt} {s : Nat} : (aBt t s = 40) = (aWe t s = -12) := aWe_g (by decide) (by decide) (by decide) (by decide) (fun y h => (aSg_u y).1 h) (by decide) (by decide +kernel) (by decide) (by decide)
theorem aWe_41 {t : zXt} {s : Nat} : (aBt t s = 41) = (aWe t s = -13) := aWe_g (by decide) (by decide) (by decide) (by decide) (fun y h => (aSg_u y).2.1 h) (by decide) (by decide +kernel) (by decide) (by decide)
theorem aWe_59 {t : zXt} {s : Nat} : (aBt t s = 59) = (aWe t s = -14) := aWe_g (by decide) (by decide) (by decide) (by decide) (fun y h => (aSg_u y).2.2.1 h) (by decide) (by decide +kernel) (by decide) (by decide)
theorem mBd_24 {t : zXt} {s o : Nat} {σ : zM} (h : mBd t s o σ) : mBd t s o (zwI σ 0 60 24 1) := ⟨mTk_24 h.1, by rw [zfs]; rfl, by rw [zfe (by omega)]; exact h.2.2⟩
theorem zm243_48x {d s o : Nat} {a s0 : Int32} {t : zXt} {σ : zM} (w : wT t) (h : mBd t s o σ) (hs0 : s ≤ t.1) : zrun (zev (d + 6)) zT_243 48 [some (.inr (.inr (0, 60))), some (.inl a)] [.inl s0, .inr (.inr (0, 60))] σ = some (0, 0, zwI σ 0 60 24 1) := by
  have h2 := mBd_24 h
  rw [ez_243_48, zm236x (d := d + 5) h.2.1]
  simp only [zbs, zm242x (d := d) w h2.1 hs0 h2.2.1, zm241x (d := d + 5) h2.2.1]
  split
  · rfl
  · split <;> rfl
theorem zm243 {d s m o : Nat} {t : zXt} {S : zS} {σ : zM} (w : wT t) (h : mOk t s m o S σ) (hs0 : s ≤ t.1) (hk : m + 3 ≤ 200) : ∃ τ, zev (d + 8) 243 [.inr (.inr (0, 60))] σ = some (0, 0, τ) ∧ zFr Wmp σ τ ∧ (-5 ≤ aWe t s → -8 ≤ aWe t (nx t s) ∧ aWe t (nx t s) ≤ -6 → -5 ≤ aWe t (nx t (nx t s)) → mOk t (nx t (nx t (nx t s))) (m + 1 + 1 + 1) o (zup (zup (zup S (120 + m) (aWe t s)) (120 + (m + 1)) (aWe t (nx t (nx t s)))) (120 + (m + 1 + 1)) (aWe t (nx t s) - 5)) τ) ∧ (¬ -5 ≤ aWe t s → mBd t s o τ) ∧ (-5 ≤ aWe t s → ¬ (-8 ≤ aWe t (nx t s) ∧ aWe t (nx t s) ≤ -6) → mBd t (nx t s) o τ) ∧ (-5 ≤ aWe t s → -8 ≤ aWe t (nx t s) ∧ aWe t (nx t s) ≤ -6 → ¬ -5 ≤ aWe t (nx t (nx t s)) → mBd t (nx t (nx t s)) o τ) := by
  have hl := w.1
  have n1 := nx_l hs0
  have n2 := nx_l n1.2
  obtain ⟨τ, g1, g2, g3, g4⟩ := zm242 (d := d) w h hs0 (by omega)
  rw [ez_243]
  simp only [g1, zbs]
  by_cases q1 : -5 ≤ aWe t s
  case neg =>
    have hb := g4 q1
    rw [hb.2.1]
    simp only [zBi, cond_true]
    rw [ez_243_23, if_neg (by decide), if_neg (by decide), if_neg (by decide), zm243_48x (d := d + 1) w hb hs0]
    exact ⟨_, rfl, zFr_tt g2 (zFr_w (by omega)), fun z => absurd z q1, fun _ => mBd_24 hb, fun z => absurd z q1, fun z => absurd z q1⟩
  case pos =>
  have ho : mOk t (nx t s) (m + 1) o (zup S (120 + m) (aWe t s)) τ := g3 q1
  have hb := aBt_r w (nx t s)
  rw [ho.2.1]
  simp only [zBi, cond_false, ho.1.2.1, zm232 (d := d + 6) ho.1.1 w (show nx t s ≤ 1000 by omega), zbs]
  have e60 : (iI (aBt t (nx t s)) = 60) = (aWe t (nx t s) = -6) := (iI_eq (b := 60) (by omega) (by decide)).trans aWe_60
  have e61 : (iI (aBt t (nx t s)) = 61) = (aWe t (nx t s) = -7) := (iI_eq (b := 61) (by omega) (by decide)).trans aWe_61
  have e62 : (iI (aBt t (nx t s)) = 62) = (aWe t (nx t s) = -8) := (iI_eq (b := 62) (by omega) (by decide)).trans aWe_62
  rw [ez_243_23]
  simp only [e60, e61, e62, ez_243_43]
  by_cases q2 : -8 ≤ aWe t (nx t s) ∧ aWe t (nx t s) ≤ -6
  case neg =>
    rw [if_neg (by omega), if_neg (by omega), if_neg (by omega)]
    have hF := zm236f (d := d + 6) (σ := τ) ho.2.1
    have hb2 : mBd t (nx t s) o (zwI τ 0 60 24 1) := ⟨mTk_24 ho.1, by rw [zfs]; rfl, by rw [zfe (by omega)]; exact ho.2.2.1⟩
    rw [ez_243_48, hF]
    simp only [zbs, zm242x (d := d + 1) w hb2.1 n1.2 hb2.2.1, zm241x (d := d + 6) hb2.2.1]
    refine ⟨zwI τ 0 60 24 1, ?_, zFr_tt g2 (zFr_w (by omega)), fun _ z => absurd z q2, fun z => absurd q1 z, fun _ _ => hb2, fun _ z => absurd z q2⟩
    split
    · rfl
    · split <;> rfl
  case pos =>
  have e48 : ∀ {y : zR}, (zrun (zev (d + 7)) zT_243 48 [some (.inr (.inr (0, 60))), some (.inl (iI (aBt t (nx t s))))] [.inl 1, .inr (.inr (0, 60))] τ = y) → (if aWe t (nx t s) = -6 then zrun (zev (d + 7)) zT_243 48 [some (.inr (.inr (0, 60))), some (.inl (iI (aBt t (nx t s))))] [.inl 1, .inr (.inr (0, 60))] τ else if aWe t (nx t s) = -7 then zrun (zev (d + 7)) zT_243 48 [some (.inr (.inr (0, 60))), some (.inl (iI (aBt t (nx t s))))] [.inl 1, .inr (.inr (0, 60))] τ else if aWe t (nx t s) = -8 then zrun (zev (d + 7)) zT_243 48 [some (.inr (.inr (0, 60))), some (.inl (iI (aBt t (nx t s))))] [.inl 1, .inr (.inr (0, 60))] τ else zrun (zev (d + 7)) zT_243 48 [some (.inr (.inr (0, 60))), some (.inl (iI (aBt t (nx t s))))] [.inl 0, .inr (.inr (0, 60))] τ) = y := by
    intro y hy
    repeat' split
    all_goals first | exact hy | omega
  obtain ⟨τ2, f1, f2, f3, f4⟩ := zm236t (d := d + 2) w ho.1 (aTf_l n1.2).2 ho.2.1
  have ho2 : mOk t (nx t (nx t s)) (m + 1) o (zup S (120 + m) (aWe t s)) τ2 := ⟨f3, f4, mMm_f ho.2.2 f2⟩
  obtain ⟨τ3, y1, y2, y3, y4⟩ := zm242 (d := d) w ho2 n2.2 (by omega)
  have fr : zFr Wmp σ τ3 := zFr_tt (zFr_tt g2 (zFr_i f2 fun _ _ _ q => by omega)) y2
  by_cases q3 : -5 ≤ aWe t (nx t (nx t s))
  · have ho3 := y3 q3
    obtain ⟨τ4, x1, x2, x3⟩ := zm241 (d := d + 6) (p := aWe t (nx t s) - 5) ho3 (by omega)
    refine ⟨τ4, e48 ?_, zFr_tt fr x2, fun _ _ _ => x3, fun z => absurd q1 z, fun _ z => absurd q2 z, fun _ _ z => absurd q3 z⟩
    rw [ez_243_48, f1]
    simp only [zbs, y1, e60, e61]
    by_cases a : aWe t (nx t s) = -6
    · rw [if_pos a]
      rw [a] at x1
      have x1 : zev (d + 7) 241 [.inr (.inr (0, 60)), .inl (-11)] τ3 = _ := x1
      rw [x1]; rfl
    · rw [if_neg a]
      by_cases b : aWe t (nx t s) = -7
      · rw [if_pos b]
        rw [b] at x1
        have x1 : zev (d + 7) 241 [.inr (.inr (0, 60)), .inl (-12)] τ3 = _ := x1
        rw [x1]; rfl
      · rw [if_neg b]
        rw [show aWe t (nx t s) = -8 by omega] at x1
        have x1 : zev (d + 7) 241 [.inr (.inr (0, 60)), .inl (-13)] τ3 = _ := x1
        rw [x1]; rfl
  · have hb3 := y4 q3
    refine ⟨τ3, e48 ?_, fr, fun _ _ z => absurd z q3, fun z => absurd q1 z, fun _ z => absurd q2 z, fun _ _ _ => hb3⟩
    rw [ez_243_48, f1]
    simp only [zbs, y1, zm241x (d := d + 6) hb3.2.1]
    split
    · rfl
    · split <;> rfl
abbrev Wcd (c0 : Nat) : Nat → Nat → Nat → Prop := fun g k i => (g = 4 ∧ k = 12 ∧ c0 ≤ i) ∨ (g = 0 ∧ (k = 33 ∨ k = 34))
def cAt (t : zXt) (u n c0 o : Nat) (L R : List Int) (σ : zM) : Prop := cTp t σ ∧ σ.1 0 33 1 = iI u ∧ σ.1 4 7 0 = iI n ∧ cMm c0 o L R σ
theorem cMm_u {c0 o : Nat} {L R : List Int} {σ : zM} {i : Nat} {v : Int32} (h : cMm c0 o L R σ) (hi : i = 1 ∨ i = 2) : cMm c0 o L R (zwI σ 0 33 i v) := by
  obtain ⟨a1, a2, a3, a4, a5⟩ := h
  exact ⟨by rw [zfe (by omega)]; exact a1, by rw [zfe (by omega)]; exact a2, fun j hj => by rw [zfe (by omega)]; exact a3 j hj, by rw [zfe (by omega)]; exact a4, wMem_f a5 (fun j _ => by rw [zfe (by omega)])⟩
theorem cMm_o {c0 o o' : Nat} {L R : List Int} {σ : zM} (h : cMm c0 o L R σ) : cMm c0 o' L R (zwI σ 0 33 3 (iI o')) := by
  obtain ⟨a1, a2, a3, a4, a5⟩ := h
  exact ⟨zfs, by rw [zfe (by omega)]; exact a2, fun j hj => by rw [zfe (by omega)]; exact a3 j hj, by rw [zfe (by omega)]; exact a4, wMem_f a5 (fun j _ => by rw [zfe (by omega)])⟩
theorem cTp_d {t : zXt} {c0 : Nat} {σ τ : zM} (h : cTp t σ) (f : zFr (Wcd c0) σ τ) : cTp t τ := cTp_f h (f.1 _ _ _ (by omega)) (zFr_f f (fun i => by omega))
def cTk (t : zXt) (d u n c0 o : Nat) (L R : List Int) (W : Int) (u2 o2 : Nat) (L2 R2 : List Int) : Prop := ∀ σ, cAt t u n c0 o L R σ → ∃ τ, zev (d + 8) 49 [.inr (.inr (0, 33)), .inl (iI W)] σ = some (1, 0, τ) ∧ zFr (Wcd c0) σ τ ∧ cAt t u2 n c0 o2 L2 R2 τ
def cNo (t : zXt) (d u n c0 o : Nat) (L R : List Int) (W : Int) : Prop := ∀ σ, cAt t u n c0 o L R σ → zev (d + 8) 49 [.inr (.inr (0, 33)), .inl (iI W)] σ = some (0, 0, σ)
theorem zc59 {d : Nat} {W : Int} {σ : zM} (hW : zrn W) : zev (d + 1) 59 [.inl (iI W)] σ = some (zB (decide (-5 ≤ W)), 0, σ) := by
  have e : (iI W < -5) = (W < -5) := by rw [show (-5 : Int32) = iI (-5) by decide]; exact iI_lt hW (by decide)
  rw [ez_59]
  simp only [e]
  by_cases q : W < -5
  · rw [if_pos q, zgd_t (by decide), decide_eq_false (by omega)]; rfl
  · rw [if_neg q, zgd_t (by decide), decide_eq_true (by omega)]; rfl
theorem c49_4 {d : Nat} {W : Int32} {σ : zM} (h : σ.1 0 33 1 = iI (4 : Nat)) : zev (d + 8) 49 [.inr (.inr (0, 33)), .inl W] σ = (zev (d + 7) 55 [.inr (.inr (0, 33)), .inl W] σ).bind fun x => zgd (zret 3 x.1) (some (x.1, 0, x.2.2)) := by
  rw [ez_49, h]
  simp only
  rw [if_neg (show ¬ iI (4 : Nat) = 0 by decide), if_neg (show ¬ iI (4 : Nat) = 1 by decide), if_neg (show ¬ iI (4 : Nat) = 2 by decide), if_neg (show ¬ iI (4 : Nat) = 3 by decide), if_pos (show iI (4 : Nat) = 4 by decide)]
theorem c49_5 {d : Nat} {W : Int32} {σ : zM} (h : σ.1 0 33 1 = iI (5 : Nat)) : zev (d + 8) 49 [.inr (.inr (0, 33)), .inl W] σ = (zev (d + 7) 56 [.inr (.inr (0, 33)), .inl W] σ).bind fun x => zgd (zret 3 x.1) (some (x.1, 0, x.2.2)) := by
  rw [ez_49, h]
  simp only
  rw [if_neg (show ¬ iI (5 : Nat) = 0 by decide), if_neg (show ¬ iI (5 : Nat) = 1 by decide), if_neg (show ¬ iI (5 : Nat) = 2 by decide), if_neg (show ¬ iI (5 : Nat) = 3 by decide), if_neg (show ¬ iI (5 : Nat) = 4 by decide), if_pos (show iI (5 : Nat) = 5 by decide)]
theorem c49_6 {d : Nat} {W : Int32} {σ : zM} (h : σ.1 0 33 1 = iI (6 : Nat)) : zev (d + 8) 49 [.inr (.inr (0, 33)), .inl W] σ = (zev (d + 7) 57 [.inr (.inr (0, 33)), .inl W] σ).bind fun x => zgd (zret 3 x.1) (some (x.1, 0, x.2.2)) := by
  rw [ez_49, h]
  simp only
  rw [if_neg (show ¬ iI (6 : Nat) = 0 by decide), if_neg (show ¬ iI (6 : Nat) = 1 by decide), if_neg (show ¬ iI (6 : Nat) = 2 by decide), if_neg (show ¬ iI (6 : Nat) = 3 by decide), if_neg (show ¬ iI (6 : Nat) = 4 by decide), if_neg (show ¬ iI (6 : Nat) = 5 by decide), if_pos (show iI (6 : Nat) = 6 by decide)]
theorem iIm {z c : Int} (hz : zrn z) (hc : zrn c) : (iI z = iI c) = (z = c) := iI_eq hz hc
theorem t4v {t : zXt} {d n c0 o : Nat} {L R : List Int} {W : Int} (hW : -5 ≤ W ∧ W ≤ 9999) (hk : c0 + L.length < 200) : cTk t d 4 n c0 o L R W 5 o (L ++ [W]) R := by
  intro σ ⟨h1, h2, h3, h4⟩
  have e9 : (iI W = -9) = (W = -9) := by rw [show (-9 : Int32) = iI (-9) by decide]; exact iIm (by omega) (by decide)
  have e12 : (iI W = -12) = (W = -12) := by rw [show (-12 : Int32) = iI (-12) by decide]; exact iIm (by omega) (by decide)
  obtain ⟨τ, g1, g2, g3⟩ := zc62 (d := d + 5) (p := W) h4 hk
  have fr : zFr (Wcd c0) σ (zwI τ 0 33 1 5) := zFr_tt (zFr_i g2 fun _ _ _ q => by omega) (zFr_w (by omega))
  have e55 : zev (d + 7) 55 [.inr (.inr (0, 33)), .inl (iI W)] σ = some (1, 0, zwI τ 0 33 1 5) := by
    rw [ez_55]
    simp only [e9, e12, zc59 (d := d + 5) (show zrn W by omega), zbs, zBi, decide_eq_true hW.1, cond_true, g1]
    rw [if_neg (by omega), if_neg (by omega), zgd_t (by decide)]
  rw [c49_4 h2, e55]
  simp only [zbs]
  rw [zgd_t (by decide)]
  exact ⟨_, rfl, fr, cTp_d h1 fr, by rw [zfs]; rfl, (fr.1 _ _ _ (by omega)).trans h3, cMm_u g3 (Or.inl rfl)⟩
theorem t4n {t : zXt} {d n c0 o : Nat} {L R : List Int} (hk : R.length < 200) : cTk t d 4 n c0 o L R (-9) 4 o L (-9 :: R) := by
  intro σ ⟨h1, h2, h3, h4⟩
  obtain ⟨τ, g1, g2, g3⟩ := zc60 (d := d + 5) (p := -9) h4 hk
  have g1 : zev (d + 6) 60 [.inr (.inr (0, 33)), .inl (-9)] σ = some (0, 0, τ) := g1
  have fr : zFr (Wcd c0) σ τ := zFr_i g2 fun _ _ _ q => by omega
  have e55 : zev (d + 7) 55 [.inr (.inr (0, 33)), .inl (iI (-9))] σ = some (1, 0, τ) := by
    rw [ez_55]
    simp only [g1, zbs]
    rw [if_pos (show iI (-9) = -9 by decide), zgd_t (by decide)]
  rw [c49_4 h2, e55]
  simp only [zbs]
  rw [zgd_t (by decide)]
  exact ⟨_, rfl, fr, cTp_d h1 fr, (g2.1 _ _ _ (by omega)).trans h2, (fr.1 _ _ _ (by omega)).trans h3, g3⟩
theorem t4o {t : zXt} {d n c0 o : Nat} {L R : List Int} (ho : o < 3) (hk : R.length < 200) : cTk t d 4 n c0 o L R (-12) 4 (o + 1) L (-12 :: R) := by
  intro σ ⟨h1, h2, h3, h4⟩
  have e3 : (iI (o : Int) < 3) = ((o : Int) < 3) := iI_lt (b := 3) (by omega) (by decide)
  obtain ⟨τ, g1, g2, g3⟩ := zc60 (d := d + 5) (p := -12) (cMm_o (o' := o + 1) h4) hk
  have g1 : zev (d + 6) 60 [.inr (.inr (0, 33)), .inl (-12)] (zwI σ 0 33 3 (iI ((o + 1 : Nat) : Int))) = some (0, 0, τ) := g1
  have fr : zFr (Wcd c0) σ τ := zFr_tt (zFr_w (by omega)) (zFr_i g2 fun _ _ _ q => by omega)
  have e55 : zev (d + 7) 55 [.inr (.inr (0, 33)), .inl (iI (-12))] σ = some (1, 0, τ) := by
    rw [ez_55, h4.1]
    simp only [e3, hki1, g1, zbs]
    rw [if_neg (show ¬ iI (-12) = -9 by decide), if_pos (show iI (-12) = -12 by decide), if_pos (by omega), zgd_t (by decide)]
  rw [c49_4 h2, e55]
  simp only [zbs]
  rw [zgd_t (by decide)]
  exact ⟨_, rfl, fr, cTp_d h1 fr, (g2.1 _ _ _ (by omega)).trans (by rw [zfe (by omega)]; exact h2), (fr.1 _ _ _ (by omega)).trans h3, g3⟩
theorem t4x {t : zXt} {d n c0 o : Nat} {L R : List Int} {W : Int} (hW : zrn W) (h5 : W < -5) (h9 : W ≠ -9) (h12 : W = -12 → 3 ≤ o) (ho : o ≤ 3) : cNo t d 4 n c0 o L R W := by
  intro σ ⟨h1, h2, h3, h4⟩
  have e9 : (iI W = -9) = (W = -9) := by rw [show (-9 : Int32) = iI (-9) by decide]; exact iIm hW (by decide)
  have e12 : (iI W = -12) = (W = -12) := by rw [show (-12 : Int32) = iI (-12) by decide]; exact iIm hW (by decide)
  have e3 : (iI (o : Int) < 3) = ((o : Int) < 3) := iI_lt (b := 3) (by omega) (by decide)
  have e55 : zev (d + 7) 55 [.inr (.inr (0, 33)), .inl (iI W)] σ = some (0, 0, σ) := by
    rw [ez_55, h4.1]
    simp only [e9, e12, e3, zc59 (d := d + 5) hW, zbs, zBi, decide_eq_false (show ¬ -5 ≤ W by omega), cond_false]
    rw [if_neg h9]
    by_cases q : W = -12
    · rw [if_pos q, if_neg (by have := h12 q; omega), zgd_t (by decide)]
    · rw [if_neg q, zgd_t (by decide)]
  rw [c49_4 h2, e55]
  simp only [zbs]
  rw [zgd_t (by decide)]
theorem t5s {t : zXt} {d n c0 o : Nat} {L R : List Int} {W : Int} {σ : zM} (h : cAt t 5 n c0 o L R σ) (hW : -8 ≤ W ∧ W ≤ -6) : ∃ τ, zev (d + 8) 49 [.inr (.inr (0, 33)), .inl (iI W)] σ = some (1, 0, τ) ∧ zFr (Wcd c0) σ τ ∧ cAt t 6 n c0 o L R τ ∧ τ.1 0 33 2 = iI W := by
  obtain ⟨h1, h2, h3, h4⟩ := h
  have e141 : zev (d + 6) 141 [.inl (iI W), .inl (-8), .inl (-6)] σ = some (zB (decide (-8 ≤ W ∧ W ≤ -6)), 0, σ) := zc141 (l := -8) (h := -6) (by omega) (by decide) (by decide)
  have fr : zFr (Wcd c0) σ (zwI (zwI σ 0 33 2 (iI W)) 0 33 1 6) := zFr_tt (zFr_w (by omega)) (zFr_w (by omega))
  have e56 : zev (d + 7) 56 [.inr (.inr (0, 33)), .inl (iI W)] σ = some (1, 0, zwI (zwI σ 0 33 2 (iI W)) 0 33 1 6) := by
    rw [ez_56]
    simp only [e141, zbs, zBi, decide_eq_true hW, cond_true]
    rw [zgd_t (by decide)]
  rw [c49_5 h2, e56]
  simp only [zbs]
  rw [zgd_t (by decide)]
  exact ⟨_, rfl, fr, ⟨cTp_d h1 fr, by rw [zfs]; rfl, (fr.1 _ _ _ (by omega)).trans h3, cMm_u (cMm_u h4 (Or.inr rfl)) (Or.inl rfl)⟩, by rw [zfe (by omega), zfs]⟩
theorem t5x {t : zXt} {d n c0 o : Nat} {L R : List Int} {W : Int} (hW : zrn W) (h : ¬ (-8 ≤ W ∧ W ≤ -6)) : cNo t d 5 n c0 o L R W := by
  intro σ ⟨h1, h2, h3, h4⟩
  have e141 : zev (d + 6) 141 [.inl (iI W), .inl (-8), .inl (-6)] σ = some (zB (decide (-8 ≤ W ∧ W ≤ -6)), 0, σ) := zc141 (l := -8) (h := -6) (by omega) (by decide) (by decide)
  have e56 : zev (d + 7) 56 [.inr (.inr (0, 33)), .inl (iI W)] σ = some (0, 0, σ) := by
    rw [ez_56]
    simp only [e141, zbs, zBi, decide_eq_false h, cond_false]
    rw [zgd_t (by decide)]
  rw [c49_5 h2, e56]
  simp only [zbs]
  rw [zgd_t (by decide)]
theorem t6v {t : zXt} {d n c0 o : Nat} {L R : List Int} {W g : Int} {σ : zM} (h : cAt t 6 n c0 o L R σ) (hg : σ.1 0 33 2 = iI g) (hW : -5 ≤ W ∧ W ≤ 9999) (hk : c0 + L.length + 1 < 200) : ∃ τ, zev (d + 8) 49 [.inr (.inr (0, 33)), .inl (iI W)] σ = some (1, 0, τ) ∧ zFr (Wcd c0) σ τ ∧ cAt t 7 n c0 o (L ++ [W] ++ [g]) R τ := by
  obtain ⟨h1, h2, h3, h4⟩ := h
  obtain ⟨τ, g1, g2, g3⟩ := zc62 (d := d + 5) (p := W) h4 (by omega)
  obtain ⟨τ2, f1, f2, f3⟩ := zc62 (d := d + 5) (p := g) g3 (by rw [List.length_append]; show c0 + (L.length + 1) < 200; omega)
  have hg2 : τ.1 0 33 2 = iI g := (g2.1 _ _ _ (by omega)).trans hg
  have fr : zFr (Wcd c0) σ (zwI τ2 0 33 1 7) := zFr_tt (zFr_tt (zFr_i g2 fun _ _ _ q => by omega) (zFr_i f2 fun _ _ _ q => by omega)) (zFr_w (by omega))
  have e57 : zev (d + 7) 57 [.inr (.inr (0, 33)), .inl (iI W)] σ = some (1, 0, zwI τ2 0 33 1 7) := by
    rw [ez_57]
    simp only [zc59 (d := d + 5) (show zrn W by omega), zbs, zBi, decide_eq_true hW.1, cond_true, g1, hg2, f1]
    rw [zgd_t (by decide)]
  rw [c49_6 h2, e57]
  simp only [zbs]
  rw [zgd_t (by decide)]
  exact ⟨_, rfl, fr, cTp_d h1 fr, by rw [zfs]; rfl, (fr.1 _ _ _ (by omega)).trans h3, cMm_u f3 (Or.inl rfl)⟩
theorem t6x {t : zXt} {d n c0 o : Nat} {L R : List Int} {W : Int} (hW : zrn W) (h : W < -5) : cNo t d 6 n c0 o L R W := by
  intro σ ⟨h1, h2, h3, h4⟩
  have e57 : zev (d + 7) 57 [.inr (.inr (0, 33)), .inl (iI W)] σ = some (0, 0, σ) := by
    rw [ez_57]
    simp only [zc59 (d := d + 5) hW, zbs, zBi, decide_eq_false (show ¬ -5 ≤ W by omega), cond_false]
    rw [zgd_t (by decide)]
  rw [c49_6 h2, e57]
  simp only [zbs]
  rw [zgd_t (by decide)]
theorem c49_7 {d : Nat} {W : Int32} {σ : zM} (h : σ.1 0 33 1 = iI (7 : Nat)) : zev (d + 8) 49 [.inr (.inr (0, 33)), .inl W] σ = (zev (d + 7) 58 [.inr (.inr (0, 33)), .inl W] σ).bind fun x8 => if x8.1 = 0 then (if (x8.2.2.1 0 33 3) = 0 then ((zev (d + 7) 52 [.inr (.inr (0, 33)), .inl W] x8.2.2).bind fun x9 => if x9.1 = 0 then (zgd (zret 3 0) (some (0, 0, x9.2.2))) else (zgd (zret 3 1) (some (1, 0, x9.2.2)))) else (zgd (zret 3 0) (some (0, 0, x8.2.2)))) else (zgd (zret 3 1) (some (1, 0, x8.2.2))) := by
  rw [ez_49, h]
  simp only
  rw [if_neg (show ¬ iI (7 : Nat) = 0 by decide), if_neg (show ¬ iI (7 : Nat) = 1 by decide), if_neg (show ¬ iI (7 : Nat) = 2 by decide), if_neg (show ¬ iI (7 : Nat) = 3 by decide), if_neg (show ¬ iI (7 : Nat) = 4 by decide), if_neg (show ¬ iI (7 : Nat) = 5 by decide), if_neg (show ¬ iI (7 : Nat) = 6 by decide)]
theorem t7j {t : zXt} {d n c0 o : Nat} {L R : List Int} {W : Int} (hW : W = -10 ∨ W = -11) (hu : ∀ u, u ∈ R → zrn u) (hk : c0 + L.length + R.length < 200) : cTk t d 7 n c0 o L R W 4 o (L ++ pW W R) (W :: dW W R) := by
  intro σ ⟨h1, h2, h3, h4⟩
  have e10 : (iI W = -10) = (W = -10) := by rw [show (-10 : Int32) = iI (-10) by decide]; exact iIm (by omega) (by decide)
  have e11 : (iI W = -11) = (W = -11) := by rw [show (-11 : Int32) = iI (-11) by decide]; exact iIm (by omega) (by decide)
  obtain ⟨τ, g1, g2, g3⟩ := zc61e (d := d + 4) (j := W) (by omega) h4 hu (by omega)
  have pl := pW_l (j := W) R
  obtain ⟨τ2, f1, f2, f3⟩ := zc60 (d := d + 5) (p := W) g3 (by omega)
  have fr : zFr (Wcd c0) σ (zwI τ2 0 33 1 4) := zFr_tt (zFr_tt (zFr_i g2 fun _ _ _ q => by omega) (zFr_i f2 fun _ _ _ q => by omega)) (zFr_w (by omega))
  have e58 : zev (d + 7) 58 [.inr (.inr (0, 33)), .inl (iI W)] σ = some (1, 0, zwI τ2 0 33 1 4) := by
    rw [ez_58]
    simp only [e10, e11, g1, zbs, f1]
    rcases hW with h | h
    · rw [if_pos h, zgd_t (by decide)]
    · rw [if_neg (by omega), if_pos h, zgd_t (by decide)]
  rw [c49_7 h2, e58]
  simp only [zbs]
  rw [if_neg (by decide), zgd_t (by decide)]
  exact ⟨_, rfl, fr, cTp_d h1 fr, by rw [zfs]; rfl, (fr.1 _ _ _ (by omega)).trans h3, cMm_u f3 (Or.inl rfl)⟩
theorem t7c {t : zXt} {d n c0 o : Nat} {L R R2 : List Int} {u : Int} (hR : dW (-11) R = u :: R2) (hu : ∀ u, u ∈ R → zrn u) (ho : o + 1 ≤ 3) (hk : c0 + L.length + R.length ≤ 200) : cTk t d 7 n c0 (o + 1) L R (-13) 7 o (L ++ pW (-11) R) R2 := by
  intro σ ⟨h1, h2, h3, h4⟩
  obtain ⟨τ, g1, g2, g3⟩ := zc61e (d := d + 4) (j := -11) (by decide) h4 hu hk
  have g1 : zev (d + 6) 61 [.inr (.inr (0, 33)), .inl (-11)] σ = some (0, 0, τ) := g1
  rw [hR] at g3
  obtain ⟨a1, a2, a3, a4, a5⟩ := g3
  have pl := pW_l (j := -11) R
  rw [hR, List.length_cons] at pl
  have a4 : τ.1 0 33 6 = iI ((R2.length + 1 : Nat) : Int) := a4
  have m1 : iI ((R2.length + 1 : Nat) : Int) - 1 = iI (R2.length : Nat) := by
    show iI _ - iI 1 = _
    rw [iI_sub]; congr 1; omega
  have e272 : zev (d + 6) 272 [.inl 0, .inl (iI (R2.length : Nat))] τ = some (iI (R2.length : Nat), 0, τ) := by
    have := zc272 (d := d + 5) (a := 0) (b := (R2.length : Nat)) (σ := τ) (by decide) (by omega)
    rw [show (if (0 : Int) < (R2.length : Nat) then ((R2.length : Nat) : Int) else 0) = (R2.length : Nat) by split <;> omega] at this
    exact this
  have eo : (zwI τ 0 33 6 (iI (R2.length : Nat))).1 0 33 3 - 1 = iI (o : Nat) := by
    rw [zfe (by omega), a1]
    show iI _ - iI 1 = _
    rw [iI_sub]; congr 1; omega
  have fr : zFr (Wcd c0) σ (zwI (zwI τ 0 33 6 (iI (R2.length : Nat))) 0 33 3 (iI (o : Nat))) := zFr_tt (zFr_tt (zFr_i g2 fun _ _ _ q => by omega) (zFr_w (by omega))) (zFr_w (by omega))
  have n0 : ¬ iI ((o + 1 : Nat) : Int) = 0 := by rw [iI_0 (by omega)]; omega
  have e58 : zev (d + 7) 58 [.inr (.inr (0, 33)), .inl (iI (-13))] σ = some (1, 0, zwI (zwI τ 0 33 6 (iI (R2.length : Nat))) 0 33 3 (iI (o : Nat))) := by
    rw [ez_58, h4.1]
    simp only [g1, zbs, a4, m1, e272, eo]
    rw [if_neg (show ¬ iI (-13) = -10 by decide), if_neg (show ¬ iI (-13) = -11 by decide), if_pos (show iI (-13) = -13 by decide), if_neg n0, zgd_t (by decide)]
  rw [c49_7 h2, e58]
  simp only [zbs]
  rw [if_neg (by decide), zgd_t (by decide)]
  refine ⟨_, rfl, fr, cTp_d h1 fr, ?_, (fr.1 _ _ _ (by omega)).trans h3, zfs, by rw [zfe (by omega), zfe (by omega)]; exact a2, fun j hj => by rw [zfe (by omega), zfe (by omega)]; exact a3 j hj, by rw [zfe (by omega), zfs], wMem_f a5.2 (fun j _ => by rw [zfe (by omega), zfe (by omega)])⟩
  rw [zfe (by omega), zfe (by omega), g2.1 _ _ _ (by omega)]
  exact h2
theorem t7x {t : zXt} {d n c0 o : Nat} {L R : List Int} {W : Int} (hW : zrn W) (h10 : W ≠ -10) (h11 : W ≠ -11) (h13 : W = -13 → o = 0) (hd : W = -16 ∨ W = -17 ∨ W = -18 → o ≠ 0) (ho : o ≤ 3) : cNo t d 7 n c0 o L R W := by
  intro σ ⟨h1, h2, h3, h4⟩
  have em : ∀ c : Int, zrn c → (iI W = iI c) = (W = c) := fun c hc => iIm hW hc
  have e10 : (iI W = -10) = (W = -10) := by rw [show (-10 : Int32) = iI (-10) by decide]; exact em (-10) (by decide)
  have e11 : (iI W = -11) = (W = -11) := by rw [show (-11 : Int32) = iI (-11) by decide]; exact em (-11) (by decide)
  have e13 : (iI W = -13) = (W = -13) := by rw [show (-13 : Int32) = iI (-13) by decide]; exact em (-13) (by decide)
  have e16 : (iI W = -16) = (W = -16) := by rw [show (-16 : Int32) = iI (-16) by decide]; exact em (-16) (by decide)
  have e17 : (iI W = -17) = (W = -17) := by rw [show (-17 : Int32) = iI (-17) by decide]; exact em (-17) (by decide)
  have e18 : (iI W = -18) = (W = -18) := by rw [show (-18 : Int32) = iI (-18) by decide]; exact em (-18) (by decide)
  have e0 : (iI (o : Int) = 0) = ((o : Int) = 0) := iI_0 (by omega)
  have e58 : zev (d + 7) 58 [.inr (.inr (0, 33)), .inl (iI W)] σ = some (0, 0, σ) := by
    rw [ez_58, h4.1]
    simp only [e10, e11, e13, e0]
    rw [if_neg h10, if_neg h11]
    by_cases q : W = -13
    · rw [if_pos q, if_pos (by have := h13 q; omega), zgd_t (by decide)]
    · rw [if_neg q, zgd_t (by decide)]
  have e52 : o = 0 → zev (d + 7) 52 [.inr (.inr (0, 33)), .inl (iI W)] σ = some (0, 0, σ) := fun q => by
    rw [ez_52]
    simp only [e16, e17, e18]
    rw [if_neg (fun z => hd (Or.inl z) q), if_neg (fun z => hd (Or.inr (Or.inl z)) q), if_neg (fun z => hd (Or.inr (Or.inr z)) q), zgd_t (by decide)]
  rw [c49_7 h2, e58]
  simp only [zbs, h4.1, e0]
  rw [if_pos trivial]
  by_cases q : o = 0
  · rw [if_pos (by omega), e52 q]
    simp only [zbs]
    rw [if_pos trivial, zgd_t (by decide)]
  · rw [if_neg (by omega), zgd_t (by decide)]
abbrev Wdd (c0 : Nat) : Nat → Nat → Nat → Prop := fun g k i => (g = 4 ∧ ((k = 12 ∧ c0 ≤ i) ∨ k = 9)) ∨ (g = 0 ∧ (k = 33 ∨ k = 34))
theorem zc52 {t : zXt} {d u n c0 o : Nat} {L R : List Int} {W : Int} {σ : zM} (h : cAt t u n c0 o L R σ) (hW : W = -16 ∨ W = -17 ∨ W = -18) (hn : n < 8) (hu : ∀ u, u ∈ R → zrn u) (hk : c0 + L.length + R.length ≤ 200) : ∃ τ, zev (d + 7) 52 [.inr (.inr (0, 33)), .inl (iI W)] σ = some (1, 0, τ) ∧ zFr (Wdd c0) σ τ ∧ cAt t (if W = -18 then 3 else 2) n c0 o (L ++ pW (-11) R) (dW (-11) R) τ ∧ τ.1 4 9 n = iI W ∧ ∀ i, i ≠ n → τ.1 4 9 i = σ.1 4 9 i := by
  obtain ⟨h1, h2, h3, h4⟩ := h
  have em : ∀ c : Int, zrn c → (iI W = iI c) = (W = c) := fun c hc => iIm (by omega) hc
  have e16 : (iI W = -16) = (W = -16) := by rw [show (-16 : Int32) = iI (-16) by decide]; exact em (-16) (by decide)
  have e17 : (iI W = -17) = (W = -17) := by rw [show (-17 : Int32) = iI (-17) by decide]; exact em (-17) (by decide)
  have e18 : (iI W = -18) = (W = -18) := by rw [show (-18 : Int32) = iI (-18) by decide]; exact em (-18) (by decide)
  obtain ⟨τ, g1, g2, g3⟩ := zc61e (d := d + 4) (j := -11) (by decide) h4 hu hk
  have g1 : zev (d + 6) 61 [.inr (.inr (0, 33)), .inl (-11)] σ = some (0, 0, τ) := g1
  have hn2 : τ.1 4 7 0 = iI n := (g2.1 _ _ _ (by omega)).trans h3
  have fr : ∀ v : Int32, zFr (Wdd c0) σ (zwI (zwI τ 4 9 n (iI W)) 0 33 1 v) := fun v => zFr_tt (zFr_tt (zFr_i g2 fun _ _ _ q => by omega) (zFr_w (by omega))) (zFr_w (by omega))
  have c9 : cMm c0 o (L ++ pW (-11) R) (dW (-11) R) (zwI τ 4 9 n (iI W)) := by
    obtain ⟨a1, a2, a3, a4, a5⟩ := g3
    exact ⟨by rw [zfe (by omega)]; exact a1, by rw [zfe (by omega)]; exact a2, fun j hj => by rw [zfe (by omega)]; exact a3 j hj, by rw [zfe (by omega)]; exact a4, wMem_f a5 (fun j _ => by rw [zfe (by omega)])⟩
  have e20 : zrun (zev (d + 6)) zT_52 20 [some (.inr (.inr (0, 33))), some (.inl (iI W))] [] σ = some (1, 0, zwI (zwI τ 4 9 n (iI W)) 0 33 1 (iI ((if W = -18 then 3 else 2 : Nat) : Int))) := by
    rw [ez_52_20, g1]
    simp only [zbs, hn2, zgd_t (iI_ink (z := n) (k := n) rfl hn (by decide)), iI_Nn (show n ≤ 2147483647 by omega), e18]
    by_cases q : W = -18
    · rw [if_pos q, if_pos q, zgd_t (by decide)]; rfl
    · rw [if_neg q, if_neg q, zgd_t (by decide)]; rfl
  refine ⟨_, ?_, fr _, ⟨cTp_f h1 ((fr _).1 _ _ _ (by omega)) (zFr_f (fr _) (fun i => by omega)), zfs, ((fr _).1 _ _ _ (by omega)).trans h3, cMm_u c9 (Or.inl rfl)⟩, by rw [zfe (by omega), zfs], fun i hi => by rw [zfe (by omega), zfe (by omega)]; exact g2.1 _ _ _ (by omega)⟩
  · rw [ez_52]
    simp only [e16, e17, e18, e20]
    rcases hW with q | q | q
    · rw [if_pos q]
    · rw [if_neg (by omega), if_pos q]
    · rw [if_neg (by omega), if_neg (by omega), if_pos q]
def zcL (f : Nat → Int32) : List Int → List Int32 → List Int32
  | [], st => st
  | c :: L, st => zcL f L (zcS f (iI c) st)
theorem zcR_L {f code : Nat → Int32} : ∀ (L : List Int) (k : Nat) (st : List Int32), (∀ i, i < L.length → code (k + i) = iI (L.getD i 0)) → zcR f code L.length k st = zcL f L st
  | [], _, _, _ => rfl
  | c :: L, k, st, h => by
    have h0 : code k = iI c := h 0 (Nat.succ_pos _)
    show zcR f code L.length (k + 1) (zcS f (code k) st) = zcL f L (zcS f (iI c) st)
    rw [h0]
    refine zcR_L L (k + 1) _ fun i hi => ?_
    have := h (i + 1) (Nat.succ_lt_succ hi)
    rw [show k + (i + 1) = k + 1 + i by omega] at this
    exact this
theorem zcL_a {f : Nat → Int32} : ∀ (A B : List Int) (st : List Int32), zcL f (A ++ B) st = zcL f B (zcL f A st)
  | [], _, _ => rfl
  | a :: A, B, st => zcL_a A B (zcS f (iI a) st)
def zmL (f : Nat → Int32) : List Int → List Int32 → Option (List Int32)
  | [], st => some st
  | c :: L, st => (zmS f (iI c) st).bind (zmL f L)
theorem zmR_L {f code : Nat → Int32} : ∀ (L : List Int) (k : Nat) (st : List Int32), (∀ i, i < L.length → code (k + i) = iI (L.getD i 0)) → zmR f code L.length k st = zmL f L st
  | [], _, _, _ => rfl
  | c :: L, k, st, h => by
    have h0 : code k = iI c := h 0 (Nat.succ_pos _)
    show (zmS f (code k) st).bind (zmR f code L.length (k + 1)) = (zmS f (iI c) st).bind (zmL f L)
    rw [h0]
    congr 1
    funext st2
    refine zmR_L L (k + 1) _ fun i hi => ?_
    have := h (i + 1) (Nat.succ_lt_succ hi)
    rw [show k + (i + 1) = k + 1 + i by omega] at this
    exact this
theorem zmL_a {f : Nat → Int32} : ∀ (A B : List Int) (st : List Int32), zmL f (A ++ B) st = (zmL f A st).bind (zmL f B)
  | [], _, _ => rfl
  | a :: A, B, st => by
    show (zmS f (iI a) st).bind (zmL f (A ++ B)) = ((zmS f (iI a) st).bind (zmL f A)).bind (zmL f B)
    cases zmS f (iI a) st with
    | none => rfl
    | some s2 => exact zmL_a A B s2
def aVl (f : Nat → Int32) (v : Int) : Int32 := if v = -1 then f 0 else if v = -2 then f 1 else if v = -3 then f 2 else if v = -4 then f 3 else if v = -5 then f 4 else iI v
theorem zcS_v {f : Nat → Int32} {v : Int} {st : List Int32} (hv : -5 ≤ v ∧ v ≤ 9999) (hl : st.length < 16) : zcS f (iI v) st = aVl f v :: st := by
  have e5 : (iI v < -5) = (v < -5) := by rw [show (-5 : Int32) = iI (-5) by decide]; exact iI_lt (by omega) (by decide)
  have e0 : (iI v < 0) = (v < 0) := iI_lt0 (by omega)
  unfold zcS aVl
  rw [if_neg (show ¬ iI v < -5 by rw [e5]; omega), if_pos hl]
  by_cases q : v < 0
  · rw [if_pos (show iI v < 0 by rw [e0]; exact q)]
    rcases (by omega : v = -1 ∨ v = -2 ∨ v = -3 ∨ v = -4 ∨ v = -5) with rfl | rfl | rfl | rfl | rfl <;> rfl
  · rw [if_neg (show ¬ iI v < 0 by rw [e0]; exact q), if_neg (by omega), if_neg (by omega), if_neg (by omega), if_neg (by omega), if_neg (by omega)]
theorem zmS_v {f : Nat → Int32} {v : Int} {st : List Int32} (hv : -5 ≤ v ∧ v ≤ 9999) : zmS f (iI v) st = some (aVl f v :: st) := by
  have e10 : (-10 < iI v) = (-10 < v) := by rw [show (-10 : Int32) = iI (-10) by decide]; exact iI_lt (by decide) (by omega)
  unfold zmS
  rw [if_pos (show -10 < iI v by rw [e10]; omega)]
  congr 2
  by_cases q : v < 0
  · rcases (by omega : v = -1 ∨ v = -2 ∨ v = -3 ∨ v = -4 ∨ v = -5) with rfl | rfl | rfl | rfl | rfl <;> rfl
  · have em : ∀ c : Int, zrn c → c < 0 → ¬ iI v = iI c := fun c hc h0 z => by
      rw [iIm (by omega) hc] at z; omega
    unfold zmF aVl
    rw [if_neg (show ¬ iI v = -5 by rw [show (-5 : Int32) = iI (-5) by decide]; exact em (-5) (by decide) (by decide)), if_neg (show ¬ iI v = -4 by rw [show (-4 : Int32) = iI (-4) by decide]; exact em (-4) (by decide) (by decide)), if_neg (show ¬ iI v = -3 by rw [show (-3 : Int32) = iI (-3) by decide]; exact em (-3) (by decide) (by decide)), if_neg (show ¬ iI v = -2 by rw [show (-2 : Int32) = iI (-2) by decide]; exact em (-2) (by decide) (by decide)), if_neg (show ¬ iI v = -1 by rw [show (-1 : Int32) = iI (-1) by decide]; exact em (-1) (by decide) (by decide)), if_neg (by omega), if_neg (by omega), if_neg (by omega), if_neg (by omega), if_neg (by omega)]
def aCp (f : Nat → Int32) (u g v : Int) : Bool := if g = -6 then decide (aVl f u < aVl f v) else if g = -7 then decide (aVl f u = aVl f v) else decide (aVl f v < aVl f u)
theorem t7d {t : zXt} {d n c0 : Nat} {L R : List Int} {W : Int} {σ : zM} (h : cAt t 7 n c0 0 L R σ) (hW : W = -16 ∨ W = -17 ∨ W = -18) (hn : n < 8) (hu : ∀ u, u ∈ R → zrn u) (hk : c0 + L.length + R.length ≤ 200) : ∃ τ, zev (d + 8) 49 [.inr (.inr (0, 33)), .inl (iI W)] σ = some (1, 0, τ) ∧ zFr (Wdd c0) σ τ ∧ cAt t (if W = -18 then 3 else 2) n c0 0 (L ++ pW (-11) R) (dW (-11) R) τ ∧ τ.1 4 9 n = iI W ∧ ∀ i, i ≠ n → τ.1 4 9 i = σ.1 4 9 i := by
  have em : ∀ c : Int, zrn c → (iI W = iI c) = (W = c) := fun c hc => iIm (by omega) hc
  have e10 : (iI W = -10) = (W = -10) := by rw [show (-10 : Int32) = iI (-10) by decide]; exact em (-10) (by decide)
  have e11 : (iI W = -11) = (W = -11) := by rw [show (-11 : Int32) = iI (-11) by decide]; exact em (-11) (by decide)
  have e13 : (iI W = -13) = (W = -13) := by rw [show (-13 : Int32) = iI (-13) by decide]; exact em (-13) (by decide)
  obtain ⟨τ, g1, g2⟩ := zc52 (d := d) h hW hn hu hk
  have e58 : zev (d + 7) 58 [.inr (.inr (0, 33)), .inl (iI W)] σ = some (0, 0, σ) := by
    rw [ez_58]
    simp only [e10, e11, e13]
    rw [if_neg (by omega), if_neg (by omega), if_neg (by omega), zgd_t (by decide)]
  have h0 : σ.1 0 33 3 = 0 := h.2.2.2.1
  refine ⟨τ, ?_, g2⟩
  rw [c49_7 h.2.1, e58]
  simp only [zbs, h0, g1]
  rw [if_pos trivial, if_pos trivial, if_neg (by decide), zgd_t (by decide)]
theorem zcS_g {f : Nat → Int32} {g : Int} {x y : Int32} {st : List Int32} (h : -8 ≤ g ∧ g ≤ -6 ∨ -11 ≤ g ∧ g ≤ -10) : zcS f (iI g) (y :: x :: st) = zB (zcH (iI g) x y) :: st := by
  have e5 : (iI g < -5) = (g < -5) := by rw [show (-5 : Int32) = iI (-5) by decide]; exact iI_lt (by omega) (by decide)
  have e9 : (iI g = -9) = (g = -9) := by rw [show (-9 : Int32) = iI (-9) by decide]; exact iIm (by omega) (by decide)
  unfold zcS
  rw [if_pos (show iI g < -5 by rw [e5]; omega), if_neg (show ¬ iI g = -9 by rw [e9]; omega)]
theorem zcS_n {f : Nat → Int32} {x : Int32} {st : List Int32} : zcS f (iI (-9)) (x :: st) = (1 - x) :: st := by
  unfold zcS
  rw [if_pos (show iI (-9) < -5 by decide), if_pos (show iI (-9) = -9 by decide)]
theorem zmS_g {f : Nat → Int32} {g : Int} {x y : Int32} {st : List Int32} (h : -22 ≤ g ∧ g ≤ -11) (h20 : g ≠ -20) : zmS f (iI g) (y :: x :: st) = some (zB (zmH (iI g) x y) :: st) := by
  have e10 : (-10 < iI g) = (-10 < g) := by rw [show (-10 : Int32) = iI (-10) by decide]; exact iI_lt (by decide) (by omega)
  have e20 : (iI g = -20) = (g = -20) := by rw [show (-20 : Int32) = iI (-20) by decide]; exact iIm (by omega) (by decide)
  unfold zmS
  rw [if_neg (show ¬ -10 < iI g by rw [e10]; omega), if_neg (show ¬ iI g = -20 by rw [e20]; exact h20)]
theorem zmS_n {f : Nat → Int32} {x : Int32} {st : List Int32} : zmS f (iI (-20)) (x :: st) = some ((1 - x) :: st) := by
  unfold zmS
  rw [if_neg (show ¬ (-10 : Int32) < iI (-20) by decide), if_pos (show iI (-20) = -20 by decide)]
theorem zH_g {g : Int} {x y : Int32} (h : -8 ≤ g ∧ g ≤ -6) : zcH (iI g) x y = zmH (iI (g - 5)) x y := by
  rcases (by omega : g = -6 ∨ g = -7 ∨ g = -8) with rfl | rfl | rfl
  · unfold zcH zmH
    rw [if_neg (show ¬ iI (-6) = -10 by decide), if_neg (show ¬ iI (-6) = -9 by decide), if_neg (show ¬ iI (-6) = -8 by decide), if_neg (show ¬ iI (-6) = -7 by decide), if_pos (show iI (-6) = -6 by decide), if_neg (show ¬ iI (-6 - 5) = -21 by decide), if_neg (show ¬ iI (-6 - 5) = -13 by decide), if_neg (show ¬ iI (-6 - 5) = -12 by decide), if_pos (show iI (-6 - 5) = -11 by decide)]
  · unfold zcH zmH
    rw [if_neg (show ¬ iI (-7) = -10 by decide), if_neg (show ¬ iI (-7) = -9 by decide), if_neg (show ¬ iI (-7) = -8 by decide), if_pos (show iI (-7) = -7 by decide), if_neg (show ¬ iI (-7 - 5) = -21 by decide), if_neg (show ¬ iI (-7 - 5) = -13 by decide), if_pos (show iI (-7 - 5) = -12 by decide)]
  · unfold zcH zmH
    rw [if_neg (show ¬ iI (-8) = -10 by decide), if_neg (show ¬ iI (-8) = -9 by decide), if_pos (show iI (-8) = -8 by decide), if_neg (show ¬ iI (-8 - 5) = -21 by decide), if_pos (show iI (-8 - 5) = -13 by decide)]
theorem zH_j : ∀ b b2 : Bool, zcH (iI (-10)) (zB b) (zB b2) = (b && b2) ∧ zmH (iI (-21)) (zB b) (zB b2) = (b && b2) ∧ zcH (iI (-11)) (zB b) (zB b2) = (b || b2) ∧ zmH (iI (-22)) (zB b) (zB b2) = (b || b2) := by decide +kernel
theorem zB_n1 : ∀ b : Bool, (1 : Int32) - zB b = zB (!b) := by decide
def eqv (H : Nat) (B A : List Int) : Prop := ∀ (f : Nat → Int32) (st : List Int32), st.length + H ≤ 16 → ∃ b : Bool, zcL f B st = zB b :: st ∧ zmL f A st = some (zB b :: st)
def eqt (H : Nat) (B A : List Int) : Prop := ∀ (f : Nat → Int32) (st : List Int32) (b : Bool), st.length + H ≤ 16 → ∃ b2 : Bool, zcL f B (zB b :: st) = zB b2 :: st ∧ zmL f A (zB b :: st) = some (zB b2 :: st)
theorem eqv_m {H H2 : Nat} {B A : List Int} (h : eqv H B A) (l : H ≤ H2) : eqv H2 B A := fun f st q => h f st (by omega)
theorem eqt_m {H H2 : Nat} {B A : List Int} (h : eqt H B A) (l : H ≤ H2) : eqt H2 B A := fun f st b q => h f st b (by omega)
theorem eqt_0 {H : Nat} : eqt H [] [] := fun _ _ b _ => ⟨b, rfl, rfl⟩
theorem eqv_t {H : Nat} {B A B2 A2 : List Int} (h : eqv H B A) (h2 : eqt H B2 A2) : eqv H (B ++ B2) (A ++ A2) := fun f st q => by
  obtain ⟨b, e1, e2⟩ := h f st q
  obtain ⟨b2, e3, e4⟩ := h2 f st b q
  refine ⟨b2, by rw [zcL_a, e1, e3], ?_⟩
  rw [zmL_a, e2]
  exact e4
theorem eqt_t {H : Nat} {B A B2 A2 : List Int} (h : eqt H B A) (h2 : eqt H B2 A2) : eqt H (B ++ B2) (A ++ A2) := fun f st b q => by
  obtain ⟨b1, e1, e2⟩ := h f st b q
  obtain ⟨b2, e3, e4⟩ := h2 f st b1 q
  refine ⟨b2, by rw [zcL_a, e1, e3], ?_⟩
  rw [zmL_a, e2]
  exact e4
theorem eqv_p {u g v : Int} (hu : -5 ≤ u ∧ u ≤ 9999) (hv : -5 ≤ v ∧ v ≤ 9999) (hg : -8 ≤ g ∧ g ≤ -6) : eqv 2 [u, v, g] [u, v, g - 5] := fun f st q => by
  refine ⟨zcH (iI g) (aVl f u) (aVl f v), ?_, ?_⟩
  · show zcS f (iI g) (zcS f (iI v) (zcS f (iI u) st)) = _
    rw [zcS_v hu (by omega), zcS_v hv (by rw [List.length_cons]; omega), zcS_g (Or.inl hg)]
  · show (zmS f (iI u) st).bind (fun s1 => (zmS f (iI v) s1).bind (fun s2 => (zmS f (iI (g - 5)) s2).bind (zmL f []))) = _
    rw [zmS_v hu]
    show (zmS f (iI v) (aVl f u :: st)).bind (fun s2 => (zmS f (iI (g - 5)) s2).bind (zmL f [])) = _
    rw [zmS_v hv]
    show (zmS f (iI (g - 5)) (aVl f v :: aVl f u :: st)).bind (zmL f []) = _
    rw [zmS_g (by omega) (by omega), zH_g hg]
    rfl
theorem eqt_and {H : Nat} {B A : List Int} (h : eqv H B A) : eqt (H + 1) (B ++ [-10]) (A ++ [-21]) := fun f st b q => by
  obtain ⟨b2, e1, e2⟩ := h f (zB b :: st) (by rw [List.length_cons]; omega)
  refine ⟨b && b2, ?_, ?_⟩
  · rw [zcL_a, e1]
    show zcS f (iI (-10)) (zB b2 :: zB b :: st) = zB (b && b2) :: st
    rw [zcS_g (Or.inr (by decide)), (zH_j b b2).1]
  · rw [zmL_a, e2]
    show (zmS f (iI (-21)) (zB b2 :: zB b :: st)).bind (zmL f []) = some (zB (b && b2) :: st)
    rw [zmS_g (by decide) (by decide), (zH_j b b2).2.1]
    rfl
theorem eqt_or {H : Nat} {B A : List Int} (h : eqv H B A) : eqt (H + 1) (B ++ [-11]) (A ++ [-22]) := fun f st b q => by
  obtain ⟨b2, e1, e2⟩ := h f (zB b :: st) (by rw [List.length_cons]; omega)
  refine ⟨b || b2, ?_, ?_⟩
  · rw [zcL_a, e1]
    show zcS f (iI (-11)) (zB b2 :: zB b :: st) = zB (b || b2) :: st
    rw [zcS_g (Or.inr (by decide)), (zH_j b b2).2.2.1]
  · rw [zmL_a, e2]
    show (zmS f (iI (-22)) (zB b2 :: zB b :: st)).bind (zmL f []) = some (zB (b || b2) :: st)
    rw [zmS_g (by decide) (by decide), (zH_j b b2).2.2.2]
    rfl
def nR : Nat → List Int → List Int
  | 0, R => R
  | k + 1, R => nR k (-9 :: R)
def oD : Nat → Bool
  | 0 => false
  | k + 1 => !oD k
theorem nR_l : ∀ (k : Nat) (R : List Int), (nR k R).length = k + R.length
  | 0, R => (Nat.zero_add _).symm
  | k + 1, R => by
    show (nR k (-9 :: R)).length = _
    rw [nR_l k, List.length_cons]; omega
theorem nR_p : ∀ (k : Nat) (R : List Int), pW (-9) (nR k R) = nR k (pW (-9) R) ∧ dW (-9) (nR k R) = dW (-9) R
  | 0, _ => ⟨rfl, rfl⟩
  | k + 1, R => by
    have ih := nR_p k (-9 :: R)
    exact ⟨ih.1.trans rfl, ih.2.trans rfl⟩
theorem nR_z {P : Int → Prop} (h9 : P (-9)) : ∀ (k : Nat) (R : List Int), (∀ u, u ∈ R → P u) → ∀ u, u ∈ nR k R → P u
  | 0, _, h => h
  | k + 1, R, h => nR_z h9 k (-9 :: R) (fun u hu => by
    rcases List.mem_cons.mp hu with e | e
    · rw [e]; exact h9
    · exact h u e)
theorem nR_c {f : Nat → Int32} {st : List Int32} : ∀ (k : Nat) (R : List Int) (b : Bool), zcL f (nR k R) (zB b :: st) = zcL f R (zB (bif oD k then !b else b) :: st)
  | 0, _, _ => rfl
  | k + 1, R, b => by
    show zcL f (nR k (-9 :: R)) _ = _
    rw [nR_c k (-9 :: R) b]
    show zcL f R (zcS f (iI (-9)) (zB (bif oD k then !b else b) :: st)) = zcL f R (zB (bif !oD k then !b else b) :: st)
    rw [zcS_n, zB_n1]
    congr 2
    cases oD k <;> cases b <;> rfl
theorem eqt_n {H k : Nat} : eqt H (nR k []) (bif oD k then [-20] else []) := fun f st b _ => by
  refine ⟨bif oD k then !b else b, nR_c k [] b, ?_⟩
  cases oD k
  · rfl
  · show (zmS f (iI (-20)) _).bind (zmL f []) = _
    rw [zmS_n, zB_n1]
    rfl
def tp (j : Int) : List Int → Prop
  | [] => True
  | u :: _ => u < j
theorem tp_0 {j : Int} : ∀ {R : List Int}, tp j R → pW j R = [] ∧ dW j R = R
  | [], _ => ⟨rfl, rfl⟩
  | u :: R, h => by
    have h : u < j := h
    unfold pW dW
    rw [if_neg (by omega), if_neg (by omega)]
    exact ⟨rfl, rfl⟩
theorem tp_m {j j2 : Int} (hj : j ≤ j2) : ∀ {R : List Int}, tp j R → tp j2 R
  | [], _ => trivial
  | u :: R, h => by
    have h : u < j := h
    show u < j2
    omega
theorem dW_t {j : Int} : ∀ {R : List Int}, tp j (dW j R)
  | [] => trivial
  | u :: R => by
    unfold dW
    split
    · exact dW_t
    · show u < j
      omega
theorem pW_2 {j j1 : Int} (hj : j ≤ j1) : ∀ (R : List Int), pW j R = pW j1 R ++ pW j (dW j1 R) ∧ dW j R = dW j (dW j1 R)
  | [] => ⟨rfl, rfl⟩
  | u :: R => by
    have ih := pW_2 hj R
    by_cases q : j1 ≤ u
    · have e1 : pW j1 (u :: R) = u :: pW j1 R := if_pos q
      have e2 : dW j1 (u :: R) = dW j1 R := if_pos q
      have e3 : pW j (u :: R) = u :: pW j R := if_pos (by omega)
      have e4 : dW j (u :: R) = dW j R := if_pos (by omega)
      rw [e1, e2, e3, e4]
      exact ⟨congrArg (List.cons u) ih.1, ih.2⟩
    · have e1 : pW j1 (u :: R) = [] := if_neg q
      have e2 : dW j1 (u :: R) = u :: R := if_neg q
      rw [e1, e2]
      exact ⟨rfl, rfl⟩
theorem pW_j {j : Int} {R : List Int} : pW j (j :: R) = j :: pW j R ∧ dW j (j :: R) = dW j R := ⟨if_pos (Int.le_refl _), if_pos (Int.le_refl _)⟩
theorem dW_z {j : Int} {P : Int → Prop} : ∀ {R : List Int}, (∀ u, u ∈ R → P u) → ∀ u, u ∈ dW j R → P u
  | [], h => h
  | v :: R, h => by
    unfold dW
    split
    · exact dW_z (fun u hu => h u (List.mem_cons.mpr (Or.inr hu)))
    · exact h
def tS (t : zXt) (s : Nat) : Prop := s ≤ t.1 ∧ (s < t.1 → t.2 s ≠ 32)
theorem tS_nx {t : zXt} {s : Nat} (h : s ≤ t.1) : tS t (nx t s) := ⟨(nx_l h).2, fun q => aTs_n (aTf_l h).2 q⟩
theorem aTf_e {t : zXt} {s : Nat} (h : s < t.1) : aTf t s = aTe t s := if_pos h
theorem nx_g {t : zXt} {s : Nat} (h : s < t.1) : s < nx t s := by
  have h1 := aTe_l h
  have h2 := aTs_l (t := t) (p := aTf t s) (by rw [aTf_e h]; exact h1.2)
  rw [aTf_e h] at h2
  unfold nx
  rw [aTf_e h]
  omega
theorem aWe_r {t : zXt} {s : Nat} : -99 ≤ aWe t s ∧ aWe t s ≤ 9999 := by
  have n2 := (aWe_n (t := t) (s := s)).2
  by_cases q : 0 ≤ aWe t s
  · have := (n2 q).2.2; omega
  · refine ⟨?_, by omega⟩
    unfold aWe
    split
    · unfold aWd
      cases aLt (t.2 s)
      · rw [cond_false]
        cases q3 : aDg (t.2 s)
        · rw [cond_false]
          rcases aSg_v (t.2 s) with e | e | e | e | e | e | e <;> omega
        · rename_i q2
          rw [cond_true]
          split
          · omega
          · have := (aNv_r (t := t) (s := s) (aTe t s - s) (aTe_d (aDL q3) q3)).1
            omega
      · rw [cond_true]
        rcases aNwd_i (aIs t s) with ⟨i, i1, i2, i3⟩ | ⟨-, h2⟩
        · rw [i3]
          exact (by decide +kernel : ∀ i, i < 18 → -99 ≤ zCd.getD i 0) i i1
        · omega
    · omega
theorem aWe_e {t : zXt} {s : Nat} (h : ¬ s < t.1) : aWe t s = -99 := if_neg h
theorem aWe_d {t : zXt} {s : Nat} (h : s < t.1) : aWe t s = aWd t s := if_pos h
theorem aWe_s {t : zXt} {s : Nat} (h : aWe t s ≠ -99) : s < t.1 := Classical.byContradiction fun q => h (aWe_e q)
theorem zFr_dr {c0 : Nat} {σ τ : zM} (f : zFr (Wcd c0) σ τ) : zFr Wrd σ τ := zFr_i f fun _ _ _ q => by omega
theorem cGo {t : zXt} {d u n c0 o u2 o2 s b : Nat} {L R L2 R2 : List Int} {σ : zM} (w : wT t) (ht : tS t s) (hs : s < t.1) (hb : b ≤ s) (hn : n < 8) (h : cAt t u n c0 o L R σ) (hk : cTk t d u n c0 o L R (aWe t s) u2 o2 L2 R2) : ∃ τ, cLp d (iI b) (iI s) σ = cLp d (iI (aTf t s : Nat)) (iI (nx t s : Nat)) τ ∧ zFr (Wcd c0) σ τ ∧ cAt t u2 n c0 o2 L2 R2 τ := by
  obtain ⟨τ, e1, e2, e3⟩ := hk σ h
  rw [aWe_d hs] at e1
  refine ⟨τ, ?_, e2, e3⟩
  rw [cLp_t h.1 w hs (ht.2 hs) hb h.2.2.1 hn e1 (zFr_dr e2)]
  unfold nx
  rw [aTf_e hs]
theorem cGn {t : zXt} {d u n c0 o s b : Nat} {L R : List Int} {σ : zM} (w : wT t) (ht : tS t s) (hs : s < t.1) (hb : b ≤ s) (hn : n < 8) (h : cAt t u n c0 o L R σ) (hk : cNo t d u n c0 o L R (aWe t s)) : cLp d (iI b) (iI s) σ = some (iI s, 0, σ) := by
  have e1 := hk σ h
  rw [aWe_d hs] at e1
  exact cLp_x h.1 w hs (ht.2 hs) hb h.2.2.1 hn e1
theorem cGe {t : zXt} {d u n c0 o s b : Nat} {L R : List Int} {σ : zM} (w : wT t) (ht : tS t s) (hs : ¬ s < t.1) (h : cAt t u n c0 o L R σ) (hu : 1 ≤ u ∧ u ≤ 7) : cLp d (iI b) (iI s) σ = some (iI s, 0, σ) := by
  have e : s = t.1 := by have := ht.1; omega
  have c := cLp_e (d := d) (b := b) h.1 w h.2.1 hu.2
  rw [if_neg (by omega)] at c
  rw [e]
  exact c
theorem cGx {t : zXt} {d u n c0 o s b : Nat} {L R : List Int} {σ : zM} (w : wT t) (ht : tS t s) (hb : b ≤ s) (hn : n < 8) (h : cAt t u n c0 o L R σ) (hu : 1 ≤ u ∧ u ≤ 7) (hk : s < t.1 → cNo t d u n c0 o L R (aWe t s)) : cLp d (iI b) (iI s) σ = some (iI s, 0, σ) := by
  by_cases q : s < t.1
  · exact cGn w ht q hb hn h (hk q)
  · exact cGe w ht q h hu
def aPut (S : zS) : Nat → List Int → zS
  | _, [] => S
  | m, a :: A => aPut (zup S (120 + m) a) (m + 1) A
theorem aPut_a : ∀ (A A2 : List Int) (S : zS) (m : Nat), aPut S m (A ++ A2) = aPut (aPut S m A) (m + A.length) A2
  | [], _, _, _ => rfl
  | a :: A, A2, S, m => by
    show aPut (zup S (120 + m) a) (m + 1) (A ++ A2) = aPut (aPut (zup S (120 + m) a) (m + 1) A) (m + (A.length + 1)) A2
    rw [aPut_a A A2, show m + (A.length + 1) = m + 1 + A.length by omega]
def mGo (t : zXt) (X : zM → zR) (o s s2 : Nat) (A : List Int) : Prop := ∀ m S σ, mOk t s m o S σ → m + 4 ≤ s → ∃ τ, X σ = some (0, 0, τ) ∧ zFr Wmp σ τ ∧ mOk t s2 (m + A.length) o (aPut S m A) τ
def mNo (t : zXt) (X : zM → zR) (o s s2 : Nat) : Prop := ∀ m S σ, mOk t s m o S σ → m + 4 ≤ s → ∃ τ, X σ = some (0, 0, τ) ∧ zFr Wmp σ τ ∧ mBd t s2 o τ
def rR (R : List Int) : Prop := ∀ u, u ∈ R → zrn u
def kGo (t : zXt) (d n o s s2 : Nat) (j : Int) (B : List Int) : Prop := ∀ c0 L R b σ, b ≤ s → cAt t 4 n c0 o L R σ → tp j R → rR R → c0 + L.length + R.length + 4 ≤ s → ∃ b2 τ L2 R2, b2 ≤ s2 ∧ cLp d (iI b) (iI s) σ = cLp d (iI (b2 : Nat)) (iI (s2 : Nat)) τ ∧ zFr (Wcd c0) σ τ ∧ cAt t 7 n c0 o L2 R2 τ ∧ dW j R2 = R ∧ L2 ++ pW j R2 = L ++ B ∧ rR R2 ∧ c0 + L2.length + R2.length + 4 ≤ s2
def kNo (t : zXt) (d n o s s2 : Nat) (j : Int) : Prop := ∀ c0 L R b σ, b ≤ s → cAt t 4 n c0 o L R σ → tp j R → rR R → c0 + L.length + R.length + 4 ≤ s → ∃ τ, cLp d (iI b) (iI s) σ = some (iI (s2 : Nat), 0, τ) ∧ zFr (Wcd c0) σ τ
def nQ (t : zXt) (j : Int) (s : Nat) : Prop := ∀ g, j ≤ g → g ≤ -10 → aWe t s ≠ g
def zOu (t : zXt) (d n o s H : Nat) (j : Int) (X : zM → zR) : Prop := (∃ s2 B A, s2 ≤ t.1 ∧ tS t s2 ∧ A.length + s ≤ s2 ∧ B.length + s ≤ s2 ∧ eqv H B A ∧ nQ t j s2 ∧ mGo t X o s s2 A ∧ kGo t d n o s s2 j B) ∨ (∃ s2, s2 ≤ t.1 ∧ mNo t X o s s2 ∧ kNo t d n o s s2 j)
def kLo (t : zXt) (d n o s s2 : Nat) (j : Int) (B : List Int) : Prop := ∀ c0 L R b σ, b ≤ s → cAt t 7 n c0 o L R σ → rR R → c0 + L.length + R.length + 4 ≤ s → ∃ b2 τ L2 R2, b2 ≤ s2 ∧ cLp d (iI b) (iI s) σ = cLp d (iI (b2 : Nat)) (iI (s2 : Nat)) τ ∧ zFr (Wcd c0) σ τ ∧ cAt t 7 n c0 o L2 R2 τ ∧ dW j R2 = dW j R ∧ L2 ++ pW j R2 = L ++ pW j R ++ B ∧ rR R2 ∧ c0 + L2.length + R2.length + 4 ≤ s2
def kLn (t : zXt) (d n o s s2 : Nat) (j : Int) : Prop := ∀ c0 L R b σ, b ≤ s → cAt t 7 n c0 o L R σ → rR R → c0 + L.length + R.length + 4 ≤ s → ∃ τ, cLp d (iI b) (iI s) σ = some (iI (s2 : Nat), 0, τ) ∧ zFr (Wcd c0) σ τ
def zLo (t : zXt) (d n o s H : Nat) (j : Int) (X : zM → zR) : Prop := (∃ s2 B A, s2 ≤ t.1 ∧ tS t s2 ∧ A.length + s ≤ s2 ∧ B.length + s ≤ s2 ∧ eqt H B A ∧ nQ t j s2 ∧ mGo t X o s s2 A ∧ kLo t d n o s s2 j B) ∨ (∃ s2, s2 ≤ t.1 ∧ mNo t X o s s2 ∧ kLn t d n o s s2 j)
theorem mOk_F {t : zXt} {s m o : Nat} {S : zS} {σ : zM} (h : mOk t s m o S σ) : mOk t s m o S σ ∧ σ.1 0 60 24 = zB false := ⟨h, h.2.1⟩
theorem lp_x {t : zXt} {D s o : Nat} {J : Nat} {h0 : Int64} {V : Int32} {X : zM → zR} {σ : zM} (w : wT t) (hX : ∀ σ, X σ = (zev (D + 6) 237 [.inr (.inr (0, 60))] σ).bind fun x0 => if (lg_cmp x0.2.1 h0) = 0 then ((zev (D + 6) 236 [.inr (.inr (0, 60)), .inl 1] x0.2.2).bind fun x1 => (zev (D + 6) J [.inr (.inr (0, 60))] x1.2.2).bind fun x2 => (zev (D + 6) 241 [.inr (.inr (0, 60)), .inl V] x2.2.2).bind fun x3 => X x3.2.2) else (some (0, 0, x0.2.2))) (h : mBd t s o σ) (hs : s ≤ t.1) (hh : ¬ lg_cmp 0 h0 = 0) : X σ = some (0, 0, σ) := by
  rw [hX, zm237 (d := D + 2) w h.1 hs h.2.1]
  simp only [zbs, cond_true]
  rw [if_neg hh]
theorem zLo_i {t : zXt} {d D n o H J : Nat} {g : Nat} {j : Int} {V : Int} {X : zM → zR} (w : wT t) (hn : n < 8) (hg : g < 18) (hj : zCd.getD g 0 = j) (hj2 : j = -10 ∨ j = -11) (hJ : ∀ B A, eqv H B A → eqt (H + 1) (B ++ [j]) (A ++ [V]))
  (hX : ∀ σ, X σ = (zev (D + 6) 237 [.inr (.inr (0, 60))] σ).bind fun x0 => if (lg_cmp x0.2.1 (lI (zKw.getD g 0))) = 0 then ((zev (D + 6) 236 [.inr (.inr (0, 60)), .inl 1] x0.2.2).bind fun x1 => (zev (D + 6) J [.inr (.inr (0, 60))] x1.2.2).bind fun x2 => (zev (D + 6) 241 [.inr (.inr (0, 60)), .inl (iI V)] x2.2.2).bind fun x3 => X x3.2.2) else (some (0, 0, x0.2.2)))
  (hI : ∀ s, tS t s → zOu t d n o s H (j + 1) (zev (D + 6) J [.inr (.inr (0, 60))])) : ∀ (N s : Nat), t.1 ≤ s + N → tS t s → nQ t (j + 1) s → zLo t d n o s (H + 1) j X := by
  have hl := w.1
  have h00 : ¬ lg_cmp 0 (lI (zKw.getD g 0)) = 0 := by
    have kp := (by decide +kernel : ∀ g, g < 18 → 1 ≤ zKw.getD g 0 ∧ zKw.getD g 0 ≤ 1125899906842624) g hg
    rw [lg_cmp_eq]
    intro e
    have := congrArg Int64.toInt e
    rw [lI_tt (by omega), show (0 : Int64).toInt = 0 by decide] at this
    omega
  intro N
  induction N with
  | zero =>
    intro s hN ht hq
    have q : ¬ s < t.1 := by omega
    refine Or.inl ⟨s, [], [], ht.1, ht, by rw [List.length_nil]; omega, by rw [List.length_nil]; omega, eqt_0, fun g g1 g2 => by rw [aWe_e q]; omega, fun m S σ h hm => ?_, fun c0 L R b σ hb h hr hk => ?_⟩
    · refine ⟨σ, ?_, zFr_r σ, h⟩
      rw [hX, zm237 (d := D + 2) w h.1 ht.1 h.2.1]
      simp only [zbs, cond_false]
      rw [if_neg (by rw [aWe_k w ht.1 hg, aWe_e q, hj]; omega)]
    · exact ⟨b, σ, L, R, hb, rfl, zFr_r σ, h, rfl, (List.append_nil _).symm, hr, hk⟩
  | succ N ih =>
    intro s hN ht hq
    by_cases qw : aWe t s = j
    case neg =>
      refine Or.inl ⟨s, [], [], ht.1, ht, by rw [List.length_nil]; omega, by rw [List.length_nil]; omega, eqt_0, fun g g1 g2 => by
        by_cases e : g = j
        · rw [e]; exact qw
        · exact hq g (by omega) g2, fun m S σ h hm => ?_, fun c0 L R b σ hb h hr hk => ?_⟩
      · refine ⟨σ, ?_, zFr_r σ, h⟩
        rw [hX, zm237 (d := D + 2) w h.1 ht.1 h.2.1]
        simp only [zbs, cond_false]
        rw [if_neg (by rw [aWe_k w ht.1 hg, hj]; exact qw)]
      · exact ⟨b, σ, L, R, hb, rfl, zFr_r σ, h, rfl, (List.append_nil _).symm, hr, hk⟩
    case pos =>
    have hs : s < t.1 := aWe_s (by omega)
    have hx := nx_g hs
    have hx2 := nx_l ht.1
    have ht2 := tS_nx ht.1
    have mh : ∀ m S σ, mOk t s m o S σ → ∃ τ, zFr Wmp σ τ ∧ mOk t (nx t s) m o S τ ∧ X σ = (zev (D + 6) J [.inr (.inr (0, 60))] τ).bind fun x2 => (zev (D + 6) 241 [.inr (.inr (0, 60)), .inl (iI V)] x2.2.2).bind fun x3 => X x3.2.2 := fun m S σ h => by
      obtain ⟨τ, f1, f2, f3, f4⟩ := zm236t (d := D + 1) w h.1 (aTf_l ht.1).2 h.2.1
      refine ⟨τ, zFr_i f2 fun _ _ _ q => by omega, ⟨f3, f4, mMm_f h.2.2 f2⟩, ?_⟩
      rw [hX, zm237 (d := D + 2) w h.1 ht.1 h.2.1]
      simp only [zbs, cond_false]
      rw [if_pos (by rw [aWe_k w ht.1 hg, hj]; exact qw), f1]
      rfl
    have ch : ∀ c0 L R b σ, b ≤ s → cAt t 7 n c0 o L R σ → rR R → c0 + L.length + R.length + 4 ≤ s → ∃ τ, cLp d (iI b) (iI s) σ = cLp d (iI (aTf t s : Nat)) (iI (nx t s : Nat)) τ ∧ zFr (Wcd c0) σ τ ∧ cAt t 4 n c0 o (L ++ pW j R) (j :: dW j R) τ ∧ aTf t s ≤ nx t s ∧ tp (j + 1) (j :: dW j R) ∧ rR (j :: dW j R) ∧ c0 + (L ++ pW j R).length + (j :: dW j R).length + 4 ≤ nx t s := fun c0 L R b σ hb h hr hk => by
      have tk := t7j (t := t) (d := d) (n := n) (c0 := c0) (o := o) (L := L) (R := R) (W := j) hj2 hr (by omega)
      rw [← qw] at tk
      obtain ⟨τ, e1, e2, e3⟩ := cGo w ht hs hb hn h tk
      rw [qw] at e3
      have pl := pW_l (j := j) R
      refine ⟨τ, e1, e2, e3, (aTs_l (aTf_l ht.1).2).1, show j < j + 1 by omega, fun u hu => ?_, ?_⟩
      · rcases List.mem_cons.mp hu with e | e
        · rw [e]; omega
        · exact dW_z hr u e
      · rw [List.length_append, List.length_cons]; omega
    rcases hI (nx t s) ht2 with ⟨s3, Bi, Ai, o1, o2, o3, o8, o4, o7, o5, o6⟩ | ⟨s3, o1, o5, o6⟩
    case inr =>
      refine Or.inr ⟨s3, o1, fun m S σ h hm => ?_, fun c0 L R b σ hb h hr hk => ?_⟩
      · obtain ⟨τ, f1, f2, f3⟩ := mh m S σ h
        obtain ⟨υ, y1, y2, y3⟩ := o5 m S τ f2 (by omega)
        refine ⟨υ, ?_, zFr_tt f1 y2, y3⟩
        rw [f3, y1]
        simp only [zbs, zm241x (d := D + 5) y3.2.1]
        exact lp_x w hX y3 o1 h00
      · obtain ⟨τ, e1, e2, e3, e4, e5, e6, e7⟩ := ch c0 L R b σ hb h hr hk
        obtain ⟨υ, y1, y2⟩ := o6 c0 _ _ _ τ e4 e3 e5 e6 e7
        exact ⟨υ, e1.trans y1, zFr_tt e2 y2⟩
    case inl =>
    have mi : ∀ m S σ, mOk t s m o S σ → m + 4 ≤ s → ∃ τ, zFr Wmp σ τ ∧ mOk t s3 (m + Ai.length + 1) o (aPut S m (Ai ++ [V])) τ ∧ X σ = X τ := fun m S σ h hm => by
      obtain ⟨τ, f1, f2, f3⟩ := mh m S σ h
      obtain ⟨υ, y1, y2, y3⟩ := o5 m S τ f2 (by omega)
      obtain ⟨φ, z1, z2, z3⟩ := zm241 (d := D + 5) (p := V) y3 (by omega)
      refine ⟨φ, zFr_tt (zFr_tt f1 y2) z2, ?_, ?_⟩
      · rw [aPut_a]; exact z3
      · rw [f3, y1]
        simp only [zbs, z1]
    have ci : ∀ c0 L R b σ, b ≤ s → cAt t 7 n c0 o L R σ → rR R → c0 + L.length + R.length + 4 ≤ s → ∃ b2 τ L2 R2, b2 ≤ s3 ∧ cLp d (iI b) (iI s) σ = cLp d (iI (b2 : Nat)) (iI (s3 : Nat)) τ ∧ zFr (Wcd c0) σ τ ∧ cAt t 7 n c0 o L2 R2 τ ∧ dW j R2 = dW j R ∧ L2 ++ pW j R2 = L ++ pW j R ++ (Bi ++ [j]) ∧ rR R2 ∧ c0 + L2.length + R2.length + 4 ≤ s3 := fun c0 L R b σ hb h hr hk => by
      obtain ⟨τ, e1, e2, e3, e4, e5, e6, e7⟩ := ch c0 L R b σ hb h hr hk
      obtain ⟨b2, υ, L2, R2, y1, y2, y3, y4, y5, y6, y7, y8⟩ := o6 c0 _ _ _ τ e4 e3 e5 e6 e7
      have p2 := pW_2 (j := j) (j1 := j + 1) (by omega) R2
      have p0 := tp_0 (dW_t (j := j) (R := R))
      refine ⟨b2, υ, L2, R2, y1, e1.trans y2, zFr_tt e2 y3, y4, ?_, ?_, y7, y8⟩
      · rw [p2.2, y5, pW_j.2, p0.2]
      · rw [p2.1, y5, pW_j.1, p0.1, ← List.append_assoc, y6, List.append_assoc (L ++ pW j R)]
    rcases ih s3 (by omega) o2 o7 with ⟨s4, B2, A2, r1, r2, r3, r8, r4, r7, r5, r6⟩ | ⟨s4, r1, r5, r6⟩
    · refine Or.inl ⟨s4, Bi ++ [j] ++ B2, Ai ++ [V] ++ A2, r1, r2, ?_, ?_, eqt_t (hJ Bi Ai o4) r4, r7, fun m S σ h hm => ?_, fun c0 L R b σ hb h hr hk => ?_⟩
      · rw [List.length_append, List.length_append, List.length_singleton]; omega
      · rw [List.length_append, List.length_append, List.length_singleton]; omega
      · obtain ⟨τ, f1, f2, f3⟩ := mi m S σ h hm
        obtain ⟨υ, y1, y2, y3⟩ := r5 _ _ τ f2 (by omega)
        refine ⟨υ, f3.trans y1, zFr_tt f1 y2, ?_⟩
        have e1 : m + (Ai ++ [V] ++ A2).length = m + Ai.length + 1 + A2.length := by
          rw [List.length_append, List.length_append, List.length_singleton]; omega
        have e2 : m + (Ai ++ [V]).length = m + Ai.length + 1 := by rw [List.length_append, List.length_singleton]; omega
        rw [e1, aPut_a, e2]
        exact y3
      · obtain ⟨b2, τ, L2, R2, e1, e2, e3, e4, e5, e6, e7, e8⟩ := ci c0 L R b σ hb h hr hk
        obtain ⟨b3, υ, L3, R3, y1, y2, y3, y4, y5, y6, y7, y8⟩ := r6 c0 L2 R2 b2 τ e1 e4 e7 e8
        refine ⟨b3, υ, L3, R3, y1, e2.trans y2, zFr_tt e3 y3, y4, y5.trans e5, ?_, y7, y8⟩
        rw [y6, e6, List.append_assoc (L ++ pW j R)]
    · refine Or.inr ⟨s4, r1, fun m S σ h hm => ?_, fun c0 L R b σ hb h hr hk => ?_⟩
      · obtain ⟨τ, f1, f2, f3⟩ := mi m S σ h hm
        obtain ⟨υ, y1, y2, y3⟩ := r5 _ _ τ f2 (by omega)
        exact ⟨υ, f3.trans y1, zFr_tt f1 y2, y3⟩
      · obtain ⟨b2, τ, L2, R2, e1, e2, e3, e4, e5, e6, e7, e8⟩ := ci c0 L R b σ hb h hr hk
        obtain ⟨υ, y1, y2⟩ := r6 c0 L2 R2 b2 τ e1 e4 e7 e8
        exact ⟨υ, e2.trans y1, zFr_tt e3 y2⟩
theorem zOu_l {t : zXt} {d n o H : Nat} {j : Int} {X0 X Y : zM → zR} (w : wT t) (hY : ∀ σ, σ.1 0 60 24 = zB false → Y σ = (X0 σ).bind fun x0 => X x0.2.2) (hx : ∀ s σ, s ≤ t.1 → mBd t s o σ → X σ = some (0, 0, σ))
  (hI : ∀ s, tS t s → zOu t d n o s H (j + 1) X0) (hL : ∀ s, tS t s → nQ t (j + 1) s → zLo t d n o s (H + 1) j X) : ∀ s, tS t s → zOu t d n o s (H + 1) j Y := by
  intro s ht
  rcases hI s ht with ⟨s3, Bi, Ai, o1, o2, o3, o8, o4, o7, o5, o6⟩ | ⟨s3, o1, o5, o6⟩
  · have mi : ∀ m S σ, mOk t s m o S σ → m + 4 ≤ s → ∃ τ, zFr Wmp σ τ ∧ mOk t s3 (m + Ai.length) o (aPut S m Ai) τ ∧ Y σ = X τ := fun m S σ h hm => by
      obtain ⟨υ, y1, y2, y3⟩ := o5 m S σ h hm
      refine ⟨υ, y2, y3, ?_⟩
      rw [hY σ h.2.1, y1]
      rfl
    have ci : ∀ c0 L R b σ, b ≤ s → cAt t 4 n c0 o L R σ → tp j R → rR R → c0 + L.length + R.length + 4 ≤ s → ∃ b2 τ L2 R2, b2 ≤ s3 ∧ cLp d (iI b) (iI s) σ = cLp d (iI (b2 : Nat)) (iI (s3 : Nat)) τ ∧ zFr (Wcd c0) σ τ ∧ cAt t 7 n c0 o L2 R2 τ ∧ dW j R2 = R ∧ L2 ++ pW j R2 = L ++ Bi ∧ rR R2 ∧ c0 + L2.length + R2.length + 4 ≤ s3 := fun c0 L R b σ hb h hp hr hk => by
      obtain ⟨b2, υ, L2, R2, y1, y2, y3, y4, y5, y6, y7, y8⟩ := o6 c0 L R b σ hb h (tp_m (by omega) hp) hr hk
      have p2 := pW_2 (j := j) (j1 := j + 1) (by omega) R2
      have p0 := tp_0 hp
      refine ⟨b2, υ, L2, R2, y1, y2, y3, y4, ?_, ?_, y7, y8⟩
      · rw [p2.2, y5, p0.2]
      · rw [p2.1, y5, p0.1, List.append_nil, y6]
    rcases hL s3 o2 o7 with ⟨s4, B2, A2, r1, r2, r3, r8, r4, r7, r5, r6⟩ | ⟨s4, r1, r5, r6⟩
    · refine Or.inl ⟨s4, Bi ++ B2, Ai ++ A2, r1, r2, by rw [List.length_append]; omega, by rw [List.length_append]; omega, eqv_t (eqv_m o4 (by omega)) r4, r7, fun m S σ h hm => ?_, fun c0 L R b σ hb h hp hr hk => ?_⟩
      · obtain ⟨τ, f1, f2, f3⟩ := mi m S σ h hm
        obtain ⟨υ, y1, y2, y3⟩ := r5 _ _ τ f2 (by omega)
        refine ⟨υ, f3.trans y1, zFr_tt f1 y2, ?_⟩
        rw [List.length_append, ← Nat.add_assoc, aPut_a]
        exact y3
      · obtain ⟨b2, τ, L2, R2, e1, e2, e3, e4, e5, e6, e7, e8⟩ := ci c0 L R b σ hb h hp hr hk
        obtain ⟨b3, υ, L3, R3, y1, y2, y3, y4, y5, y6, y7, y8⟩ := r6 c0 L2 R2 b2 τ e1 e4 e7 e8
        refine ⟨b3, υ, L3, R3, y1, e2.trans y2, zFr_tt e3 y3, y4, y5.trans e5, ?_, y7, y8⟩
        rw [y6, e6, List.append_assoc]
    · refine Or.inr ⟨s4, r1, fun m S σ h hm => ?_, fun c0 L R b σ hb h hp hr hk => ?_⟩
      · obtain ⟨τ, f1, f2, f3⟩ := mi m S σ h hm
        obtain ⟨υ, y1, y2, y3⟩ := r5 _ _ τ f2 (by omega)
        exact ⟨υ, f3.trans y1, zFr_tt f1 y2, y3⟩
      · obtain ⟨b2, τ, L2, R2, e1, e2, e3, e4, e5, e6, e7, e8⟩ := ci c0 L R b σ hb h hp hr hk
        obtain ⟨υ, y1, y2⟩ := r6 c0 L2 R2 b2 τ e1 e4 e7 e8
        exact ⟨υ, e2.trans y1, zFr_tt e3 y2⟩
  · refine Or.inr ⟨s3, o1, fun m S σ h hm => ?_, fun c0 L R b σ hb h hp hr hk => o6 c0 L R b σ hb h (tp_m (by omega) hp) hr hk⟩
    obtain ⟨υ, y1, y2, y3⟩ := o5 m S σ h hm
    refine ⟨υ, ?_, y2, y3⟩
    rw [hY σ h.2.1, y1]
    exact hx s3 υ o1 y3
