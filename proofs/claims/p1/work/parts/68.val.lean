/-! the reference: codes written, values -/
/-- the reference's code from m0 on is M -/
def mMm (m0 o : Nat) (M : List Int) (σ : zM) : Prop := σ.1 0 60 22 = iI o ∧ σ.1 0 60 23 = iI (m0 + M.length : Nat) ∧ ∀ i, i < M.length → σ.1 0 61 (120 + (m0 + i)) = iI (M.getD i 0)
abbrev Wmp (m0 : Nat) : Nat → Nat → Nat → Prop := fun g k i => g = 0 ∧ ((k = 60 ∧ 19 ≤ i ∧ i ≤ 24) ∨ (k = 61 ∧ 120 + m0 ≤ i))
theorem mMm_f {m0 o : Nat} {M : List Int} {σ τ : zM} (h : mMm m0 o M σ) (f : zFr Wfl σ τ) : mMm m0 o M τ := ⟨(f.1 _ _ _ (by omega)).trans h.1, (f.1 _ _ _ (by omega)).trans h.2.1, fun i hi => (f.1 _ _ _ (by omega)).trans (h.2.2 i hi)⟩
theorem mMm_n {m0 o : Nat} {M : List Int} {σ τ : zM} (h : mMm m0 o M σ) (f : zFr Wnm σ τ) : mMm m0 o M τ := ⟨(f.1 _ _ _ (by omega)).trans h.1, (f.1 _ _ _ (by omega)).trans h.2.1, fun i hi => (f.1 _ _ _ (by omega)).trans (h.2.2 i hi)⟩
/-- not failed, at token s -/
def mOk (t : zXt) (s m0 o : Nat) (M : List Int) (σ : zM) : Prop := mTk t s (aTf t s) σ ∧ σ.1 0 60 24 = zB false ∧ mMm m0 o M σ
/-- failed at token s -/
def mBd (t : zXt) (s o : Nat) (σ : zM) : Prop := mTk t s (aTf t s) σ ∧ σ.1 0 60 24 = zB true ∧ σ.1 0 60 22 = iI o
theorem zm241 {d s m0 o : Nat} {t : zXt} {M : List Int} {p : Int} {σ : zM} (h : mOk t s m0 o M σ) (hk : m0 + M.length < 200) : ∃ τ, zev (d + 1) 241 [.inr (.inr (0, 60)), .inl (iI p)] σ = some (0, 0, τ) ∧ zFr (Wmp m0) σ τ ∧ mOk t s m0 o (M ++ [p]) τ := by
  obtain ⟨h1, h2, h3, h4, h5⟩ := h
  have e1 : (120 : Int32) + iI ((m0 + M.length : Nat) : Int) = iI ((120 + (m0 + M.length) : Nat) : Int) := by
    show iI 120 + iI _ = _
    rw [iI_add]; congr 1
  rw [ez_241]
  simp only [h2, zBi, cond_false, h4, e1]
  rw [zgd_t (iI_ink (z := ((120 + (m0 + M.length) : Nat) : Int)) (k := 120 + (m0 + M.length)) rfl (show 120 + (m0 + M.length) < 320 by omega) (by decide)), iI_Nn (show 120 + (m0 + M.length) ≤ 2147483647 by omega), zfe (by omega), h4, hki1]
  refine ⟨_, rfl, zFr_tt (zFr_w (by omega)) (zFr_w (by omega)), ⟨⟨by rw [zfe (by omega), zfe (by omega)]; exact h1.1.1, fun i hi => by rw [zfe (by omega), zfe (by omega)]; exact h1.1.2 i hi⟩, by rw [zfe (by omega), zfe (by omega)]; exact h1.2.1, by rw [zfe (by omega), zfe (by omega)]; exact h1.2.2⟩, by rw [zfe (by omega), zfe (by omega)]; exact h2, by rw [zfe (by omega), zfe (by omega)]; exact h3, by rw [zfs, List.length_append]; rfl, fun i hi => ?_⟩
  rw [List.length_append] at hi
  have hi : i < M.length + 1 := hi
  rw [zfe (by omega)]
  by_cases q : i = M.length
  · subst q
    rw [zfs, getD_e]
  · rw [zfe (by omega), getD_a (by omega)]
    exact h5 i (by omega)
theorem zm241x {d : Nat} {p : Int32} {σ : zM} (hF : σ.1 0 60 24 = zB true) : zev (d + 1) 241 [.inr (.inr (0, 60)), .inl p] σ = some (0, 0, σ) := by
  rw [ez_241]
  simp only [hF, zBi, cond_true]
theorem zm242 {d s m0 o : Nat} {t : zXt} {M : List Int} {σ : zM} (w : wT t) (h : mOk t s m0 o M σ) (hs0 : s ≤ t.1) (hk : m0 + M.length < 200) : ∃ τ, zev (d + 7) 242 [.inr (.inr (0, 60))] σ = some (0, 0, τ) ∧ zFr (Wmp m0) σ τ ∧ (-5 ≤ aWe t s → mOk t (aTs t (aTf t s)) m0 o (M ++ [aWe t s]) τ) ∧ (¬ -5 ≤ aWe t s → mBd t s o τ) := by
  have hl := w.1
  have he := aTf_l hs0
  have e40 : zev (d + 6) 240 [.inr (.inr (0, 60))] σ = some (iI (if -5 ≤ aWe t s ∧ aWe t s ≤ -1 then aWe t s else 0), 0, σ) := by
    rw [zm240 (d := d + 1) w h.1 hs0 h.2.1]
    congr 3
    by_cases q : -5 ≤ aWe t s ∧ aWe t s ≤ -1
    · rw [if_pos q, if_pos ⟨rfl, q⟩]
    · rw [if_neg q, if_neg (fun z => q z.2)]
  rw [ez_242]
  simp only [e40, zbs]
  by_cases q : -5 ≤ aWe t s ∧ aWe t s ≤ -1
  · rw [if_pos q, if_pos (by rw [iI_lt0 (by omega)]; omega)]
    obtain ⟨τ, g1, g2, g3, g4⟩ := zm236t (d := d + 1) w h.1 he.2 h.2.1
    obtain ⟨υ, y1, y2, y3⟩ := zm241 (d := d + 5) (p := aWe t s) (t := t) (s := aTs t (aTf t s)) (σ := τ) ⟨g3, g4, mMm_f h.2.2 g2⟩ hk
    rw [g1]
    simp only [zbs, y1]
    exact ⟨υ, rfl, zFr_tt (zFr_i g2 fun _ _ _ q => by omega) y2, fun _ => y3, fun z => absurd q.1 z⟩
  · rw [if_neg q, if_neg (by decide), h.2.1]
    simp only [zBi, cond_false]
    obtain ⟨τ, g1, g2, g3, g4⟩ := zm238 (d := d) (a := 9999) w h.1 hs0 h.2.1 (by omega)
    have g1 : zev (d + 6) 238 [.inr (.inr (0, 60)), .inl 9999] σ = _ := g1
    have n2 := (aWe_n (t := t) (s := s)).2
    rw [g1]
    simp only [zbs]
    by_cases q2 : 0 ≤ aWe t s
    · obtain ⟨a1, a2, a3⟩ := g3 ⟨q2, (n2 q2).2.2⟩
      obtain ⟨υ, y1, y2, y3⟩ := zm241 (d := d + 5) (p := aWe t s) (t := t) (s := aTs t (aTf t s)) (σ := τ) ⟨a1, a2, mMm_n h.2.2 g2⟩ hk
      rw [a3, y1]
      exact ⟨υ, rfl, zFr_tt (zFr_i g2 fun _ _ _ q => by omega) y2, fun _ => y3, fun z => absurd (by omega) z⟩
    · obtain ⟨a1, a2⟩ := g4 (fun z => q2 z.1)
      rw [zm241x (d := d + 5) a2]
      exact ⟨τ, rfl, zFr_i g2 fun _ _ _ q => by omega, fun z => by omega, fun _ => ⟨a1, a2, (g2.1 _ _ _ (by omega)).trans h.2.2.1⟩⟩
theorem zm242x {d s : Nat} {t : zXt} {σ : zM} (w : wT t) (h : mTk t s (aTf t s) σ) (hs0 : s ≤ t.1) (hF : σ.1 0 60 24 = zB true) : zev (d + 6) 242 [.inr (.inr (0, 60))] σ = some (0, 0, σ) := by
  have e40 : zev (d + 5) 240 [.inr (.inr (0, 60))] σ = some (0, 0, σ) := by
    rw [zm240 (d := d) w h hs0 hF]
    rw [if_neg (fun z => by cases z.1)]; rfl
  rw [ez_242]
  simp only [e40, zbs, hF, zBi, cond_true]
  rw [if_neg (by decide)]
