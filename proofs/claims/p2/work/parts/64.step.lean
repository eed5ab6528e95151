theorem aRn_f {P : Int → Bool} {t : zXt} : ∀ (n p : Nat), aRn P t n p < p + n → P (t.2 (aRn P t n p)) = false
  | 0, p, h => by have h : p < p + 0 := h; omega
  | n + 1, p, h => by
    have e : aRn P t (n + 1) p = bif P (t.2 p) then aRn P t n (p + 1) else p := rfl
    rw [e] at h ⊢
    cases q : P (t.2 p)
    · rw [cond_false]; exact q
    · rw [q, cond_true] at h
      rw [cond_true]
      exact aRn_f n (p + 1) (by omega)
theorem aTs_n {t : zXt} {p : Nat} (hp : p ≤ t.1) (h : aTs t p < t.1) : t.2 (aTs t p) ≠ 32 := by
  have := aRn_f (P := fun z => decide (z = 32)) (t := t) (t.1 - p) p (by unfold aTs at h; omega)
  exact of_decide_eq_false this
noncomputable def cLp (d : Nat) (b i : Int32) (σ : zM) : zR := zrun (zev (d + 8)) zT_48 32 [some (.inr (.inr (0, 33))), some (.inr (.inr (0, 31))), some (.inl b), some (.inl i)] [] σ
theorem cLp_u {d : Nat} {b i : Int32} {σ : zM} : cLp d b i σ = zrun (zev (d + 8)) zT_48 32 [some (.inr (.inr (0, 33))), some (.inr (.inr (0, 31))), some (.inl b), some (.inl i)] [] σ := rfl
theorem cLp_k {d b : Nat} {t : zXt} {σ : zM} (h : cTp t σ) (w : wT t) : ∀ (n i : Nat), i + n = b → b ≤ t.1 → cLp d (iI b) (iI i) σ = cLp d (iI b) (iI b) σ
  | 0, i, hi, hb => by rw [show i = b by omega]
  | n + 1, i, hi, hb => by
    have hl := w.1
    rw [cLp_u (i := iI i), ez_48_32, h.1, if_pos (by rw [iI_lt (by omega) (by omega)]; omega), if_pos (by rw [iI_lt (by omega) (by omega)]; omega), hki1, ← cLp_u]
    exact cLp_k h w n (i + 1) (by omega) hb
theorem cLp_b {d b : Nat} {t : zXt} {σ : zM} (h : cTp t σ) (w : wT t) : ∀ (n i : Nat), i + n = t.1 → b ≤ i → cLp d (iI b) (iI i) σ = cLp d (iI b) (iI (aRn (fun z => decide (z = 32)) t n i : Nat)) σ
  | 0, i, hi, hb => rfl
  | n + 1, i, hi, hb => by
    have hl := w.1
    have e : aRn (fun z => decide (z = 32)) t (n + 1) i = bif decide (t.2 i = 32) then aRn (fun z => decide (z = 32)) t n (i + 1) else i := rfl
    rw [e]
    by_cases q : t.2 i = 32
    · rw [decide_eq_true q, cond_true, cLp_u (i := iI i), ez_48_32, h.1, if_pos (by rw [iI_lt (by omega) (by omega)]; omega), if_neg (by rw [iI_lt (by omega) (by omega)]; omega), zc76 (d := d + 7) h w (by omega)]
      simp only [zbs, zBi, decide_eq_true q, cond_true, hki1]
      rw [← cLp_u]
      exact cLp_b h w n (i + 1) (by omega) (by omega)
    · rw [decide_eq_false q, cond_false]
theorem cLp_s {d s : Nat} {t : zXt} {σ : zM} (h : cTp t σ) (w : wT t) (hs : s < t.1) : cLp d (iI (aTe t s : Nat)) (iI ((s + 1 : Nat) : Int)) σ = cLp d (iI (aTe t s : Nat)) (iI (aTs t (aTe t s) : Nat)) σ := by
  have he := aTe_l hs
  rw [cLp_k h w (aTe t s - (s + 1)) (s + 1) (by omega) (by omega), cLp_b h w (t.1 - aTe t s) (aTe t s) (by omega) (Nat.le_refl _)]
  rfl
abbrev Wrd : Nat → Nat → Nat → Prop := fun g k _ => (g = 4 ∧ 7 ≤ k ∧ k ≤ 14) ∨ (g = 0 ∧ (k = 33 ∨ k = 34))
theorem cTp_r {t : zXt} {σ τ : zM} (h : cTp t σ) (f : zFr Wrd σ τ) : cTp t τ := cTp_f h (f.1 _ _ _ (by omega)) (zFr_f f (fun i => by omega))
theorem cLp_t {d s b n : Nat} {t : zXt} {σ τ : zM} (h : cTp t σ) (w : wT t) (hs : s < t.1) (h32 : t.2 s ≠ 32) (hb : b ≤ s) (hn : σ.1 4 7 0 = iI n) (hn8 : n < 8) (e49 : zev (d + 8) 49 [.inr (.inr (0, 33)), .inl (iI (aWd t s))] σ = some (1, 0, τ)) (f : zFr Wrd σ τ) : cLp d (iI b) (iI s) σ = cLp d (iI (aTe t s : Nat)) (iI (aTs t (aTe t s) : Nat)) τ := by
  have hl := w.1
  have e8 : (iI (n : Int) < 8) = ((n : Int) < 8) := iI_lt (b := 8) (by omega) (by decide)
  rw [cLp_u, ez_48_32, h.1, if_pos (by rw [iI_lt (by omega) (by omega)]; omega), if_neg (by rw [iI_lt (by omega) (by omega)]; omega)]
  simp only [zc76 (d := d + 7) h w hs, zbs, zBi, decide_eq_false h32, cond_false, zc77 (d := d + 6) h w hs, hn, e8, zc78 (d := d) h w hs, e49, hki1]
  rw [if_pos (by omega), if_neg (by decide), ← cLp_u]
  exact cLp_s (cTp_r h f) w hs
theorem cLp_x {d s b n : Nat} {t : zXt} {σ τ : zM} (h : cTp t σ) (w : wT t) (hs : s < t.1) (h32 : t.2 s ≠ 32) (hb : b ≤ s) (hn : σ.1 4 7 0 = iI n) (hn8 : n < 8) (e49 : zev (d + 8) 49 [.inr (.inr (0, 33)), .inl (iI (aWd t s))] σ = some (0, 0, τ)) : cLp d (iI b) (iI s) σ = some (iI s, 0, τ) := by
  have hl := w.1
  have e8 : (iI (n : Int) < 8) = ((n : Int) < 8) := iI_lt (b := 8) (by omega) (by decide)
  rw [cLp_u, ez_48_32, h.1, if_pos (by rw [iI_lt (by omega) (by omega)]; omega), if_neg (by rw [iI_lt (by omega) (by omega)]; omega)]
  simp only [zc76 (d := d + 7) h w hs, zbs, zBi, decide_eq_false h32, cond_false, zc77 (d := d + 6) h w hs, hn, e8, zc78 (d := d) h w hs, e49]
  rw [if_pos (by omega), if_pos trivial]
theorem cLp_9 {d s b n : Nat} {t : zXt} {σ : zM} (h : cTp t σ) (w : wT t) (hs : s < t.1) (h32 : t.2 s ≠ 32) (hb : b ≤ s) (hn : σ.1 4 7 0 = iI n) (hn8 : ¬ n < 8) (hn9 : n ≤ 8) : cLp d (iI b) (iI s) σ = some (iI s, 0, σ) := by
  have hl := w.1
  have e8 : (iI (n : Int) < 8) = ((n : Int) < 8) := iI_lt (b := 8) (by omega) (by decide)
  rw [cLp_u, ez_48_32, h.1, if_pos (by rw [iI_lt (by omega) (by omega)]; omega), if_neg (by rw [iI_lt (by omega) (by omega)]; omega)]
  simp only [zc76 (d := d + 7) h w hs, zbs, zBi, decide_eq_false h32, cond_false, zc77 (d := d + 6) h w hs, hn, e8]
  rw [if_neg (by omega)]
theorem cLp_e {d b u : Nat} {t : zXt} {σ : zM} (h : cTp t σ) (w : wT t) (hu : σ.1 0 33 1 = iI u) (hu7 : u ≤ 7) : cLp d (iI b) (iI (t.1 : Nat)) σ = some (if u = 0 then -9 else iI (t.1 : Nat), 0, σ) := by
  have hl := w.1
  rw [cLp_u, ez_48_32, h.1, if_neg (by rw [iI_lt (by omega) (by omega)]; omega), hu]
  simp only [iI_0 (show zrn (u : Int) by omega)]
  by_cases q : u = 0
  · rw [if_pos (by omega), if_pos q]
  · rw [if_neg (by omega), if_neg q]
