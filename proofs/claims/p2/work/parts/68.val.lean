def mMm (m o : Nat) (S : zS) (σ : zM) : Prop := σ.1 0 60 22 = iI o ∧ σ.1 0 60 23 = iI m ∧ mS 61 S σ
abbrev Wmp : Nat → Nat → Nat → Prop := fun g k i => g = 0 ∧ ((k = 60 ∧ 19 ≤ i ∧ i ≤ 24) ∨ (k = 61 ∧ 120 ≤ i))
theorem mMm_f {m o : Nat} {S : zS} {σ τ : zM} (h : mMm m o S σ) (f : zFr Wfl σ τ) : mMm m o S τ := ⟨(f.1 _ _ _ (by omega)).trans h.1, (f.1 _ _ _ (by omega)).trans h.2.1, mS_f h.2.2 (zFr_f f (fun i => by omega))⟩
theorem mMm_n {m o : Nat} {S : zS} {σ τ : zM} (h : mMm m o S σ) (f : zFr Wnm σ τ) : mMm m o S τ := ⟨(f.1 _ _ _ (by omega)).trans h.1, (f.1 _ _ _ (by omega)).trans h.2.1, mS_f h.2.2 (zFr_f f (fun i => by omega))⟩
def mOk (t : zXt) (s m o : Nat) (S : zS) (σ : zM) : Prop := mTk t s (aTf t s) σ ∧ σ.1 0 60 24 = zB false ∧ mMm m o S σ
def mBd (t : zXt) (s o : Nat) (σ : zM) : Prop := mTk t s (aTf t s) σ ∧ σ.1 0 60 24 = zB true ∧ σ.1 0 60 22 = iI o
theorem zm241 {d s m o : Nat} {t : zXt} {S : zS} {p : Int} {σ : zM} (h : mOk t s m o S σ) (hk : m < 200) : ∃ τ, zev (d + 1) 241 [.inr (.inr (0, 60)), .inl (iI p)] σ = some (0, 0, τ) ∧ zFr Wmp σ τ ∧ mOk t s (m + 1) o (zup S (120 + m) p) τ := by
  obtain ⟨h1, h2, h3, h4, h5⟩ := h
  have e1 : (120 : Int32) + iI (m : Int) = iI ((120 + m : Nat) : Int) := by
    show iI 120 + iI _ = _
    rw [iI_add]; congr 1
  rw [ez_241]
  simp only [h2, zBi, cond_false, h4, e1]
  rw [zgd_t (iI_ink (z := ((120 + m : Nat) : Int)) (k := 120 + m) rfl (show 120 + m < 320 by omega) (by decide)), iI_Nn (show 120 + m ≤ 2147483647 by omega), zfe (by omega), h4, hki1]
  refine ⟨_, rfl, zFr_tt (zFr_w (by omega)) (zFr_w (by omega)), ⟨⟨by rw [zfe (by omega), zfe (by omega)]; exact h1.1.1, fun i hi => by rw [zfe (by omega), zfe (by omega)]; exact h1.1.2 i hi⟩, by rw [zfe (by omega), zfe (by omega)]; exact h1.2.1, by rw [zfe (by omega), zfe (by omega)]; exact h1.2.2⟩, by rw [zfe (by omega), zfe (by omega)]; exact h2, by rw [zfe (by omega), zfe (by omega)]; exact h3, zfs, mS_f (mS_w h5) (zfn (by omega))⟩
theorem zm241x {d : Nat} {p : Int32} {σ : zM} (hF : σ.1 0 60 24 = zB true) : zev (d + 1) 241 [.inr (.inr (0, 60)), .inl p] σ = some (0, 0, σ) := by
  rw [ez_241]
  simp only [hF, zBi, cond_true]
theorem zm242 {d s m o : Nat} {t : zXt} {S : zS} {σ : zM} (w : wT t) (h : mOk t s m o S σ) (hs0 : s ≤ t.1) (hk : m < 200) : ∃ τ, zev (d + 7) 242 [.inr (.inr (0, 60))] σ = some (0, 0, τ) ∧ zFr Wmp σ τ ∧ (-5 ≤ aWe t s → mOk t (aTs t (aTf t s)) (m + 1) o (zup S (120 + m) (aWe t s)) τ) ∧ (¬ -5 ≤ aWe t s → mBd t s o τ) := by
  have hl := w.1
  have he := aTf_l hs0
  have e40 : zev (d + 6) 240 [.inr (.inr (0, 60))] σ = some (iI (if -5 ≤ aWe t s ∧ aWe t s ≤ -1 then aWe t s else 0), 0, σ) := by
    rw [zm240 (d := d + 1) w h.1 hs0 h.2.1]
    congr 3
    by_cases q : -5 ≤ aWe t s ∧ aWe t s ≤ -1
    · rw [if_pos q, if_pos ⟨rfl, q⟩]
    · rw [if_neg q, if_neg (fun z => q z.2)]
  rw [ez_242]
  simp only [e40, zbs]
  by_cases q : -5 ≤ aWe t s ∧ aWe t s ≤ -1
  · rw [if_pos q, if_pos (by rw [iI_lt0 (by omega)]; omega)]
    obtain ⟨τ, g1, g2, g3, g4⟩ := zm236t (d := d + 1) w h.1 he.2 h.2.1
    obtain ⟨υ, y1, y2, y3⟩ := zm241 (d := d + 5) (p := aWe t s) (t := t) (s := aTs t (aTf t s)) (σ := τ) ⟨g3, g4, mMm_f h.2.2 g2⟩ hk
    rw [g1]
    simp only [zbs, y1]
    exact ⟨υ, rfl, zFr_tt (zFr_i g2 fun _ _ _ q => by omega) y2, fun _ => y3, fun z => absurd q.1 z⟩
  · rw [if_neg q, if_neg (by decide), h.2.1]
    simp only [zBi, cond_false]
    obtain ⟨τ, g1, g2, g3, g4⟩ := zm238 (d := d) (a := 9999) w h.1 hs0 h.2.1 (by omega)
    have g1 : zev (d + 6) 238 [.inr (.inr (0, 60)), .inl 9999] σ = _ := g1
    have n2 := (aWe_n (t := t) (s := s)).2
    rw [g1]
    simp only [zbs]
    by_cases q2 : 0 ≤ aWe t s
    · obtain ⟨a1, a2, a3⟩ := g3 ⟨q2, (n2 q2).2.2⟩
      obtain ⟨υ, y1, y2, y3⟩ := zm241 (d := d + 5) (p := aWe t s) (t := t) (s := aTs t (aTf t s)) (σ := τ) ⟨a1, a2, mMm_n h.2.2 g2⟩ hk
      rw [a3, y1]
      exact ⟨υ, rfl, zFr_tt (zFr_i g2 fun _ _ _ q => by omega) y2, fun _ => y3, fun z => absurd (by omega) z⟩
    · obtain ⟨a1, a2⟩ := g4 (fun z => q2 z.1)
      rw [zm241x (d := d + 5) a2]
      exact ⟨τ, rfl, zFr_i g2 fun _ _ _ q => by omega, fun z => by omega, fun _ => ⟨a1, a2, (g2.1 _ _ _ (by omega)).trans h.2.2.1⟩⟩
theorem zm242x {d s : Nat} {t : zXt} {σ : zM} (w : wT t) (h : mTk t s (aTf t s) σ) (hs0 : s ≤ t.1) (hF : σ.1 0 60 24 = zB true) : zev (d + 6) 242 [.inr (.inr (0, 60))] σ = some (0, 0, σ) := by
  have e40 : zev (d + 5) 240 [.inr (.inr (0, 60))] σ = some (0, 0, σ) := by
    rw [zm240 (d := d) w h hs0 hF]
    rw [if_neg (fun z => by cases z.1)]; rfl
  rw [ez_242]
  simp only [e40, zbs, hF, zBi, cond_true]
  rw [if_neg (by decide)]
