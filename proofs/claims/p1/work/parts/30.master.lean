/-! the whole state of both: the court, the court kept, whether it is, tape, rows, host, acts -/
abbrev zXt : Type := Nat × (Nat → Int)
abbrev zXr : Type := Nat × (Nat → Nat → Int)
/-- sorts, sizes, items, held, numbers, sorts held -/
abbrev zXh : Type := (Nat → Int) × (Nat → Int) × (Nat → Nat → Int) × (Nat → Int) × (Nat → Int) × (Nat → Int)
abbrev zXx : Type := zS × zS × Bool × zXt × zXr × zXh × zXt
def xt (x : zXx) : zXt := x.2.2.2.1
def xr (x : zXx) : zXr := x.2.2.2.2.1
def xh (x : zXx) : zXh := x.2.2.2.2.2.1
def xa (x : zXx) : zXt := x.2.2.2.2.2.2
def wT (t : zXt) : Prop := t.1 ≤ 200 ∧ ∀ i, i < t.1 → 0 ≤ t.2 i ∧ t.2 i ≤ 255
def wO (r : zXr) : Prop := r.1 ≤ 9 ∧ ∀ k w, k < r.1 → w < 3 → zrn (r.2 k w)
def wH (h : zXh) : Prop := ∀ j, j < 4 → -1 ≤ h.1 j ∧ h.1 j ≤ 4 ∧ 0 ≤ h.2.1 j ∧ h.2.1 j ≤ 40 ∧ (∀ i, i < 40 → zrn (h.2.2.1 j i)) ∧ 0 ≤ h.2.2.2.1 j ∧ h.2.2.2.1 j ≤ 2 ∧ (h.2.2.2.1 j ≠ 0 → 0 ≤ h.2.2.2.2.1 j ∧ h.2.2.2.2.1 j ≤ 40) ∧ -1 ≤ h.2.2.2.2.2 j ∧ h.2.2.2.2.2 j ≤ 4
def wC (a : zXt) : Prop := a.1 ≤ 30 ∧ ∀ i, i < a.1 → zrn (a.2 i)
/-- what grows on a broken one is broken -/
def wK (S : zS) : Prop := ∀ b, b < (S 0).toNat → 1 ≤ S (8 + 5 * b) → S (11 + 5 * (S (8 + 5 * b) - 1).toNat) = 1 → S (11 + 5 * b) = 1
theorem wK_c {S T : zS} (k : wK S) (w : wB S) (h0 : T 0 = S 0) (e : ∀ i, 7 ≤ i → i < 52 → (i - 7) % 5 = 1 ∨ (i - 7) % 5 = 4 → T i = S i) : wK T := by
  have w1 := w.2.1
  intro b hb h1 h2
  rw [h0] at hb
  have w2 := w.2.2 b hb
  have e1 := e (8 + 5 * b) (by omega) (by omega) (by omega)
  rw [e1] at h1 h2
  rw [e (11 + 5 * (S (8 + 5 * b) - 1).toNat) (by omega) (by omega) (by omega)] at h2
  rw [e (11 + 5 * b) (by omega) (by omega) (by omega)]
  exact k b hb h1 h2
theorem wK_bk {S : zS} {w : Nat} (k : wK S) (wb : wB S) : wK (aBk S w ((S 0).toNat)) := by
  have w1 := wb.2.1
  intro b hb h1 h2
  rw [aBk_n (i := 0) (by omega) (by omega)] at hb
  have w2 := wb.2.2 b hb
  rw [aBk_n (i := 8 + 5 * b) (by omega) (by omega)] at h1 h2
  rw [aBk_s] at h2 ⊢
  by_cases q : b < (S 0).toNat ∧ aAb S b w = true
  · rw [if_pos q]
  · rw [if_neg q]
    obtain ⟨p, hp⟩ := zint (show 0 ≤ S (8 + 5 * b) - 1 by omega)
    have np : ¬ ((S (8 + 5 * b) - 1).toNat < (S 0).toNat ∧ aAb S (S (8 + 5 * b) - 1).toNat w = true) := fun z => by
      refine q ⟨hb, ?_⟩
      rw [aAb_u wb hb, show aPar S b = (p : Int) from hp, aAbI_p]
      rw [hp, Int.toNat_natCast] at z
      rw [z.2, Bool.or_true]
    rw [if_neg np] at h2
    exact k b hb h1 h2
theorem wK_fal {S : zS} {w : Nat} (k : wK S) (wa : wA S) : wK (aFal S w) := by
  have p1 := wa.2.2.1.2.1
  have b1 := wa.1.2.1
  have e : ∀ i, i < 52 → aFal S w i = aBk S w ((S 0).toNat) i := fun i hi => aDn_n (by omega) (by omega)
  exact wK_c (wK_bk k wa.1) (wA_bk wa (by omega)).1 (e 0 (by decide)) (fun i _ hi _ => e i hi)
theorem wK_fl : ∀ (n : Nat) {S : zS}, wA S → wK S → wK (aFl n S).1
  | 0, _, _, k => k
  | n + 1, S, h, k => by
    unfold aFl
    split
    · exact k
    · exact wK_fl n (wA_fal h) (wK_fal k h)
def WX (x : zXx) : Prop := wA x.1 ∧ (x.2.2.1 = true → wA x.2.1) ∧ wT (xt x) ∧ wO (xr x) ∧ wH (xh x) ∧ wC (xa x) ∧ wK x.1 ∧ (x.2.2.1 = true → wK x.2.1)
/-- the class's -/
def cKe (x : zXx) (σ : zM) : Prop := σ.1 0 30 3 = zB x.2.2.1 ∧ (x.2.2.1 = true → cA 2 x.2.1 σ)
def cTp (t : zXt) (σ : zM) : Prop := σ.1 0 31 0 = iI t.1 ∧ ∀ i, i < t.1 → σ.1 0 32 i = iI (t.2 i)
def cRo (r : zXr) (σ : zM) : Prop := σ.1 0 38 0 = iI r.1 ∧ ∀ k w, k < r.1 → w < 3 → σ.1 k 40 w = iI (r.2 k w)
def lI (z : Int) : Int64 := Int64.ofInt z
def cHo (h : zXh) (σ : zM) : Prop := ∀ j, j < 4 → σ.1 0 42 j = iI (h.1 j) ∧ (0 ≤ h.1 j → σ.1 0 43 j = iI (h.2.1 j)) ∧ (0 ≤ h.1 j → ∀ i, i < 40 → σ.2 j 45 i = lI (h.2.2.1 j i)) ∧ σ.1 0 46 j = iI (h.2.2.2.1 j) ∧ (h.2.2.2.1 j ≠ 0 → σ.1 0 47 j = iI (h.2.2.2.2.1 j)) ∧ (h.2.2.2.1 j = 2 → σ.1 0 48 j = iI (h.2.2.2.2.2 j))
def cAc (a : zXt) (σ : zM) : Prop := σ.1 0 49 0 = iI a.1 ∧ ∀ i, i < a.1 → σ.1 0 50 i = iI (a.2 i)
def RC (x : zXx) (σ : zM) : Prop := cA 0 x.1 σ ∧ cKe x σ ∧ cTp (xt x) σ ∧ cRo (xr x) σ ∧ cHo (xh x) σ ∧ cAc (xa x) σ
/-- the reference's -/
def mKe (x : zXx) (σ : zM) : Prop := σ.1 0 60 3 = zB x.2.2.1 ∧ (x.2.2.1 = true → mS 62 x.2.1 σ)
def mTp (t : zXt) (σ : zM) : Prop := σ.1 0 60 18 = iI t.1 ∧ ∀ i, i < t.1 → σ.1 0 72 i = iI (t.2 i)
def mRo (r : zXr) (σ : zM) : Prop := σ.1 0 60 16 = iI r.1 ∧ ∀ k w, k < r.1 → w < 3 → σ.1 0 71 (3 * k + w) = iI (r.2 k w)
def mHo (h : zXh) (σ : zM) : Prop := ∀ j, j < 4 → σ.1 0 73 j = iI (h.1 j) ∧ (0 ≤ h.1 j → σ.1 0 74 j = iI (h.2.1 j)) ∧ (0 ≤ h.1 j → ∀ i, i < 40 → σ.1 0 75 (40 * j + i) = iI (h.2.2.1 j i)) ∧ (∃ z, σ.1 0 74 j = iI z ∧ 0 ≤ z ∧ z ≤ 40) ∧ σ.1 0 76 j = iI (h.2.2.2.1 j) ∧ (h.2.2.2.1 j ≠ 0 → σ.1 0 77 j = iI (h.2.2.2.2.1 j)) ∧ (h.2.2.2.1 j = 2 → σ.1 0 78 j = iI (h.2.2.2.2.2 j))
def mAc (a : zXt) (σ : zM) : Prop := σ.1 0 60 32 = iI a.1 ∧ ∀ i, i < a.1 → σ.1 0 79 i = iI (a.2 i)
def RM (x : zXx) (σ : zM) : Prop := mS 61 x.1 σ ∧ mKe x σ ∧ mTp (xt x) σ ∧ mRo (xr x) σ ∧ mHo (xh x) σ ∧ mAc (xa x) σ
/-- what the class may change with no trace; with the court -/
abbrev WC : Nat → Nat → Nat → Prop := fun g k i => (g = 1 ∧ k ≤ 22) ∨ (g = 3 ∧ k ≤ 22) ∨ (g = 4 ∧ 7 ≤ k ∧ k ≤ 14) ∨ (g = 0 ∧ (k = 13 ∨ k = 14 ∨ k = 22 ∨ (33 ≤ k ∧ k ≤ 37) ∨ (k = 19 ∧ 1 ≤ i) ∨ (k = 49 ∧ 1 ≤ i)))
abbrev WD : Nat → Nat → Nat → Prop := fun g k i => (g = 1 ∧ k ≤ 22) ∨ (g = 3 ∧ k ≤ 22) ∨ (g = 4 ∧ 7 ≤ k ∧ k ≤ 14) ∨ (g = 0 ∧ (k ≤ 22 ∨ (33 ≤ k ∧ k ≤ 37) ∨ (k = 49 ∧ 1 ≤ i)))
abbrev WM : Nat → Nat → Nat → Prop := fun g k i => g = 0 ∧ (k = 61 ∨ (63 ≤ k ∧ k ≤ 70) ∨ (k = 60 ∧ i ≠ 3 ∧ i ≠ 16 ∧ i ≠ 18 ∧ i ≠ 32))
theorem cA_c {g : Nat} {S : zS} {σ τ : zM} (h : cA g S σ) (e1 : ∀ k, k ≤ 21 → k ≠ 13 → k ≠ 14 → k ≠ 19 → τ.1 g k = σ.1 g k) (e2 : τ.1 g 19 0 = σ.1 g 19 0) : cA g S τ := by
  obtain ⟨h1, h2, h3, h4, h5, h6, h7⟩ := h
  exact ⟨cB_f h1 fun k _ _ => e1 k (by omega) (by omega) (by omega) (by omega), cK_f h2 (e1 1 (by decide) (by decide) (by decide) (by decide)), cW_f h3 (e1 1 (by decide) (by decide) (by decide) (by decide)), cP_f h4 fun k _ _ => e1 k (by omega) (by omega) (by omega) (by omega), cR_f h5 e2 fun k _ _ => e1 k (by omega) (by omega) (by omega) (by omega), cU_f h6 fun k _ _ => e1 k (by omega) (by omega) (by omega) (by omega), cZ_f h7 (by rw [e1 0 (by decide) (by decide) (by decide) (by decide)])⟩
theorem RC_o {x : zXx} {S : zS} {σ τ : zM} (h : RC x σ) (f : zFr WD σ τ) (hA : cA 0 S τ) : RC (S, x.2) τ := by
  obtain ⟨-, h2, h3, h4, h5, h6⟩ := h
  have e : ∀ g k, (g ≠ 1 ∨ 22 < k) → (g ≠ 3 ∨ 22 < k) → (g ≠ 4 ∨ k < 7 ∨ 14 < k) → (g ≠ 0 ∨ (22 < k ∧ (k < 33 ∨ 37 < k) ∧ k ≠ 49)) → τ.1 g k = σ.1 g k := fun g k a b c d => zFr_f f (fun i => by omega)
  refine ⟨hA, ⟨?_, fun q => ?_⟩, ⟨?_, fun i hi => ?_⟩, ⟨?_, fun k w hk hw => ?_⟩, fun j hj => ?_, ⟨?_, fun i hi => ?_⟩⟩
  · rw [e 0 30 (by omega) (by omega) (by omega) (by omega)]; exact h2.1
  · exact cA_c (h2.2 q) (fun k a b c d => e 2 k (by omega) (by omega) (by omega) (by omega)) (by rw [e 2 19 (by omega) (by omega) (by omega) (by omega)])
  · rw [e 0 31 (by omega) (by omega) (by omega) (by omega)]; exact h3.1
  · rw [e 0 32 (by omega) (by omega) (by omega) (by omega)]; exact h3.2 i hi
  · rw [e 0 38 (by omega) (by omega) (by omega) (by omega)]; exact h4.1
  · rw [e k 40 (by omega) (by omega) (by omega) (by omega)]; exact h4.2 k w hk hw
  · have := h5 j hj
    rw [e 0 42 (by omega) (by omega) (by omega) (by omega), e 0 43 (by omega) (by omega) (by omega) (by omega), f.2, e 0 46 (by omega) (by omega) (by omega) (by omega), e 0 47 (by omega) (by omega) (by omega) (by omega), e 0 48 (by omega) (by omega) (by omega) (by omega)]
    exact this
  · rw [f.1 0 49 0 (by omega)]; exact h6.1
  · rw [e 0 50 (by omega) (by omega) (by omega) (by omega)]; exact h6.2 i hi
theorem RC_s {x : zXx} {σ τ : zM} (h : RC x σ) (f : zFr WC σ τ) : RC x τ :=
  RC_o h (zFr_i f fun _ _ _ q => by omega) (cA_c h.1 (fun k a b c d => zFr_f f (fun i => by omega)) (f.1 _ _ _ (by omega)))
theorem RM_o {x : zXx} {S : zS} {σ τ : zM} (h : RM x σ) (f : zFr WM σ τ) (hS : mS 61 S τ) : RM (S, x.2) τ := by
  obtain ⟨-, h2, h3, h4, h5, h6⟩ := h
  have e : ∀ k, k ≠ 60 → k ≠ 61 → (k < 63 ∨ 70 < k) → τ.1 0 k = σ.1 0 k := fun k a b c => zFr_f f (fun i => by omega)
  refine ⟨hS, ⟨?_, fun q => ?_⟩, ⟨?_, fun i hi => ?_⟩, ⟨?_, fun k w hk hw => ?_⟩, fun j hj => ?_, ⟨?_, fun i hi => ?_⟩⟩
  · rw [f.1 0 60 3 (by omega)]; exact h2.1
  · exact mS_f (h2.2 q) (e 62 (by decide) (by decide) (by decide))
  · rw [f.1 0 60 18 (by omega)]; exact h3.1
  · rw [e 72 (by decide) (by decide) (by decide)]; exact h3.2 i hi
  · rw [f.1 0 60 16 (by omega)]; exact h4.1
  · rw [e 71 (by decide) (by decide) (by decide)]; exact h4.2 k w hk hw
  · rw [e 73 (by decide) (by decide) (by decide), e 74 (by decide) (by decide) (by decide), e 75 (by decide) (by decide) (by decide), e 76 (by decide) (by decide) (by decide), e 77 (by decide) (by decide) (by decide), e 78 (by decide) (by decide) (by decide)]
    exact h5 j hj
  · rw [f.1 0 60 32 (by omega)]; exact h6.1
  · rw [e 79 (by decide) (by decide) (by decide)]; exact h6.2 i hi
theorem RM_s {x : zXx} {σ τ : zM} (h : RM x σ) (f : zFr WM σ τ) (hS : mS 61 x.1 τ) : RM x τ := RM_o h f hS
/-- a call of both: they answer v, and are x' then -/
def zCl1 (J : Nat) (as : List zV) (x x' : zXx) (v : Int32) : Prop := ∀ σ, RC x σ → ∃ w τ, zev 64 J (.inr (.inr (0, 30)) :: as) σ = some (v, w, τ) ∧ RC x' τ
def zMl1 (J : Nat) (as : List zV) (x x' : zXx) (v : Int32) : Prop := ∀ σ, RM x σ → ∃ w τ, zev 64 J (.inr (.inr (0, 60)) :: as) σ = some (v, w, τ) ∧ RM x' τ
def zCall (J J2 : Nat) (as : List zV) (x : zXx) : Prop := ∃ x' v, WX x' ∧ zCl1 J as x x' v ∧ zMl1 J2 as x x' v
/-- a call that leaves no trace -/
theorem zCq {J J2 : Nat} {as : List zV} {x : zXx} (v : Int32) (w : WX x) (h1 : ∀ σ, RC x σ → ∃ τ, zev 64 J (.inr (.inr (0, 30)) :: as) σ = some (v, 0, τ) ∧ zFr WC σ τ) (h2 : ∀ σ, RM x σ → ∃ τ, zev 64 J2 (.inr (.inr (0, 60)) :: as) σ = some (v, 0, τ) ∧ zFr WM σ τ ∧ mS 61 x.1 τ) : zCall J J2 as x := by
  refine ⟨x, v, w, fun σ h => ?_, fun σ h => ?_⟩
  · obtain ⟨τ, a, b⟩ := h1 σ h
    exact ⟨0, τ, a, RC_s h b⟩
  · obtain ⟨τ, a, b, c⟩ := h2 σ h
    exact ⟨0, τ, a, RM_s h b c⟩
/-- a call that changes the court alone -/
theorem zCs {J J2 : Nat} {as : List zV} {x : zXx} (S : zS) (v : Int32) (w : WX x) (ws : wA S) (wk : wK S) (h1 : ∀ σ, RC x σ → ∃ τ, zev 64 J (.inr (.inr (0, 30)) :: as) σ = some (v, 0, τ) ∧ zFr WD σ τ ∧ cA 0 S τ) (h2 : ∀ σ, RM x σ → ∃ τ, zev 64 J2 (.inr (.inr (0, 60)) :: as) σ = some (v, 0, τ) ∧ zFr WM σ τ ∧ mS 61 S τ) : zCall J J2 as x := by
  refine ⟨(S, x.2), v, ⟨ws, w.2.1, w.2.2.1, w.2.2.2.1, w.2.2.2.2.1, w.2.2.2.2.2.1, wk, w.2.2.2.2.2.2.2⟩, fun σ h => ?_, fun σ h => ?_⟩
  · obtain ⟨τ, a, b, c⟩ := h1 σ h
    exact ⟨0, τ, a, RC_o h b c⟩
  · obtain ⟨τ, a, b, c⟩ := h2 σ h
    exact ⟨0, τ, a, RM_o h b c⟩
