abbrev Wmr : Nat → Nat → Nat → Prop := fun g k i => g = 0 ∧ ((k = 60 ∧ 19 ≤ i ∧ i ≤ 24) ∨ k = 61)
noncomputable def r26 (K : Nat) (a p : Int32) (σ : zM) : zR := zrun (zev (K + 20)) zT_247 26 [some (.inr (.inr (0, 60))), some (.inl a), none, none, none, none, none] [.inl p, .inr (.inr (0, 60))] σ
noncomputable def r49 (K : Nat) (a : Int32) (σ : zM) : zR := zrun (zev (K + 20)) zT_247 49 [some (.inr (.inr (0, 60))), some (.inl a), none, none, none, none, none] [] σ
noncomputable def r104 (K : Nat) (a c p : Int32) (σ : zM) : zR := zrun (zev (K + 20)) zT_247 104 [some (.inr (.inr (0, 60))), some (.inl a), none, none, some (.inl c), none, none] [.inl p, .inr (.inr (0, 60))] σ
noncomputable def r137 (K : Nat) (a c : Int32) (σ : zM) : zR := zrun (zev (K + 20)) zT_247 137 [some (.inr (.inr (0, 60))), some (.inl a), none, none, some (.inl c), none, none] [] σ
noncomputable def r169 (K : Nat) (a c e p : Int32) (σ : zM) : zR := zrun (zev (K + 20)) zT_247 169 [some (.inr (.inr (0, 60))), some (.inl a), none, none, some (.inl c), some (.inl e), none] [.inl p, .inr (.inr (0, 60))] σ
theorem r247_e {K : Nat} {σ : zM} : zev (K + 21) 247 [.inr (.inr (0, 60))] σ = (zev (K + 20) 239 [.inr (.inr (0, 60))] σ).bind fun x0 => if x0.1 < 0 then r26 K x0.1 0 x0.2.2 else if (x0.2.2.1 0 61 1) < 8 then r26 K x0.1 1 x0.2.2 else r26 K x0.1 0 x0.2.2 := by
  unfold r26
  rw [ez_247]
  simp only [ez_247_25]
theorem r26_e {K : Nat} {a p : Int32} {σ : zM} : r26 K a p σ = (zev (K + 20) 236 [.inr (.inr (0, 60)), .inl p] σ).bind fun x0 => (zev (K + 20) 237 [.inr (.inr (0, 60))] x0.2.2).bind fun x1 => if (lg_cmp x1.2.1 294) = 0 then ((zev (K + 20) 236 [.inr (.inr (0, 60)), .inl 1] x1.2.2).bind fun x2 => (zev (K + 20) 246 [.inr (.inr (0, 60))] x2.2.2).bind fun x3 => r49 K a x3.2.2) else r49 K a x1.2.2 := by
  unfold r26 r49
  rw [ez_247_26]
theorem r49_e {K : Nat} {a : Int32} {σ : zM} : r49 K a σ = (zev (K + 20) 237 [.inr (.inr (0, 60))] σ).bind fun x0 => if (lg_cmp x0.2.1 441925) = 0 then r104 K a 0 1 x0.2.2 else if (lg_cmp x0.2.1 398963) = 0 then r104 K a 1 1 x0.2.2 else if (lg_cmp x0.2.1 3764) = 0 then r104 K a 2 1 x0.2.2 else r104 K a (-1) 0 x0.2.2 := by
  have l0 : ((0 : Int32) < 0) = False := eq_false (by decide)
  have l1 : ((1 : Int32) < 0) = False := eq_false (by decide)
  have l2 : ((2 : Int32) < 0) = False := eq_false (by decide)
  have lm : ((-1 : Int32) < 0) = True := eq_true (by decide)
  unfold r49 r104
  rw [ez_247_49]
  simp only [ez_247_91, l0, l1, l2, lm, if_true, if_false]
theorem r104_e {K : Nat} {a c p : Int32} {σ : zM} : r104 K a c p σ = (zev (K + 20) 236 [.inr (.inr (0, 60)), .inl p] σ).bind fun x0 => if c < 0 then r137 K a c (zwI x0.2.2 0 60 21 0) else if c = 2 then r137 K a c (zwI x0.2.2 0 60 21 0) else if ((zwI x0.2.2 0 60 21 0).1 0 60 24) = 0 then ((zev (K + 20) 238 [.inr (.inr (0, 60)), .inl 999] (zwI x0.2.2 0 60 21 0)).bind fun x1 => r137 K a c x1.2.2) else r137 K a c (zwI x0.2.2 0 60 21 0) := by
  unfold r104 r137
  rw [ez_247_104]
theorem r137_e {K : Nat} {a c : Int32} {σ : zM} : r137 K a c σ = if (σ.1 0 60 24) = 0 then ((zev (K + 20) 232 [.inr (.inr (0, 60)), .inl (σ.1 0 60 19)] σ).bind fun x0 => if x0.1 = 59 then r169 K a c (σ.1 0 60 21) 1 x0.2.2 else r169 K a c (σ.1 0 60 21) 0 x0.2.2) else r169 K a c (σ.1 0 60 21) 0 σ := by
  unfold r137 r169
  rw [ez_247_137]
  simp only [ez_247_168]
theorem mBd_21 {t : zXt} {s o : Nat} {v : Int32} {σ : zM} (h : mBd t s o σ) : mBd t s o (zwI σ 0 60 21 v) := ⟨mTk_21 h.1, by rw [zfe (by omega)]; exact h.2.1, by rw [zfe (by omega)]; exact h.2.2⟩
theorem mOk_21 {t : zXt} {s m o : Nat} {S : zS} {v : Int32} {σ : zM} (h : mOk t s m o S σ) : mOk t s m o S (zwI σ 0 60 21 v) := ⟨mTk_21 h.1, by rw [zfe (by omega)]; exact h.2.1, by rw [zfe (by omega)]; exact h.2.2.1, by rw [zfe (by omega)]; exact h.2.2.2.1, mS_f h.2.2.2.2 (zfn (by omega))⟩
theorem mOk_x {t : zXt} {s m o : Nat} {S : zS} {σ : zM} (h : mOk t s m o S σ) : mBd t s o (zwI σ 0 60 24 1) := ⟨mTk_24 h.1, by rw [zfs]; rfl, by rw [zfe (by omega)]; exact h.2.2.1⟩
theorem r169x {t : zXt} {K s o : Nat} {a c e : Int32} {σ : zM} (h : mBd t s o σ) : r169 K a c e 0 σ = some (0, 0, zwI σ 0 60 24 1) := by
  unfold r169
  rw [ez_247_169, zm236x (d := K + 19) h.2.1]
  simp only [zbs, zfs]
  rw [if_neg (by decide)]
theorem r169f {t : zXt} {K s m o : Nat} {S : zS} {a c e : Int32} {σ : zM} (h : mOk t s m o S σ) : r169 K a c e 0 σ = some (0, 0, zwI σ 0 60 24 1) := by
  unfold r169
  rw [ez_247_169, zm236f (d := K + 19) h.2.1]
  simp only [zbs, zfs]
  rw [if_neg (by decide)]
theorem r137x {t : zXt} {K s o : Nat} {a c : Int32} {σ : zM} (h : mBd t s o σ) : r137 K a c σ = some (0, 0, zwI σ 0 60 24 1) := by
  rw [r137_e, h.2.1, if_neg (by decide), r169x h]
theorem r104x {t : zXt} {K s o : Nat} {a : Int32} {σ : zM} (h : mBd t s o σ) : ∃ τ, r104 K a (-1) 0 σ = some (0, 0, τ) ∧ zFr Wmp σ τ ∧ mBd t s o τ := by
  refine ⟨_, ?_, zFr_tt (zFr_tt (zFr_w (by omega)) (zFr_w (by omega))) (zFr_w (by omega)), mBd_24 (mBd_21 (v := 0) (mBd_24 h))⟩
  rw [r104_e, zm236x (d := K + 19) h.2.1]
  simp only [zbs]
  rw [if_pos (by decide)]
  exact r137x (mBd_21 (mBd_24 h))
theorem r104f {t : zXt} {K s m o : Nat} {S : zS} {a : Int32} {σ : zM} (h : mOk t s m o S σ) : ∃ τ, r104 K a (-1) 0 σ = some (0, 0, τ) ∧ zFr Wmp σ τ ∧ mBd t s o τ := by
  refine ⟨_, ?_, zFr_tt (zFr_tt (zFr_w (by omega)) (zFr_w (by omega))) (zFr_w (by omega)), mBd_24 (mBd_21 (v := 0) (mOk_x h))⟩
  rw [r104_e, zm236f (d := K + 19) h.2.1]
  simp only [zbs]
  rw [if_pos (by decide)]
  exact r137x (mBd_21 (mOk_x h))
theorem r49x {t : zXt} {K s o : Nat} {a : Int32} {σ : zM} (w : wT t) (hs : s ≤ t.1) (h : mBd t s o σ) : ∃ τ, r49 K a σ = some (0, 0, τ) ∧ zFr Wmp σ τ ∧ mBd t s o τ := by
  obtain ⟨τ, e1, e2⟩ := r104x (K := K) (a := a) h
  refine ⟨τ, ?_, e2⟩
  rw [r49_e, zm237 (d := K + 16) w h.1 hs h.2.1]
  simp only [zbs, cond_true]
  rw [if_neg (by decide), if_neg (by decide), if_neg (by decide)]
  exact e1
theorem r26f {t : zXt} {K s m o : Nat} {S : zS} {a : Int32} {σ : zM} (w : wT t) (hs : s ≤ t.1) (h : mOk t s m o S σ) : ∃ τ, r26 K a 0 σ = some (0, 0, τ) ∧ zFr Wmp σ τ ∧ mBd t s o τ := by
  have hb := mOk_x h
  obtain ⟨τ, e1, e2, e3⟩ := r49x (K := K) (a := a) w hs hb
  refine ⟨τ, ?_, zFr_tt (zFr_w (by omega)) e2, e3⟩
  rw [r26_e, zm236f (d := K + 19) h.2.1]
  simp only [zbs, zm237 (d := K + 16) w hb.1 hs hb.2.1, cond_true]
  rw [if_neg (by decide)]
  exact e1
theorem r49_o {t : zXt} {K s m o : Nat} {S : zS} {a : Int32} {σ : zM} (w : wT t) (hs : s ≤ t.1) (h : mOk t s m o S σ) : r49 K a σ = if aWe t s = -16 ∨ aWe t s = -17 ∨ aWe t s = -18 then r104 K a (iI (-16 - aWe t s)) 1 σ else r104 K a (-1) 0 σ := by
  have k6 : (lg_cmp (aHs t s) 441925 = 0) = (aWe t s = -16) := aWe_k (g := 6) w hs (by decide)
  have k7 : (lg_cmp (aHs t s) 398963 = 0) = (aWe t s = -17) := aWe_k (g := 7) w hs (by decide)
  have k8 : (lg_cmp (aHs t s) 3764 = 0) = (aWe t s = -18) := aWe_k (g := 8) w hs (by decide)
  rw [r49_e, zm237 (d := K + 16) w h.1 hs h.2.1]
  simp only [zbs, cond_false, k6, k7, k8]
  by_cases q6 : aWe t s = -16
  · rw [if_pos q6, if_pos (Or.inl q6), q6]; rfl
  · rw [if_neg q6]
    by_cases q7 : aWe t s = -17
    · rw [if_pos q7, if_pos (Or.inr (Or.inl q7)), q7]; rfl
    · rw [if_neg q7]
      by_cases q8 : aWe t s = -18
      · rw [if_pos q8, if_pos (Or.inr (Or.inr q8)), q8]; rfl
      · rw [if_neg q8, if_neg (by omega)]
def aRu (S : zS) (n : Nat) (a dd am : Int) (m : Nat) : zS := zup (zup (zup (zup (zup S (88 + 4 * n) a) (89 + 4 * n) dd) (90 + 4 * n) am) (91 + 4 * n) m) 1 ((n + 1 : Nat) : Int)
theorem r169_o {t : zXt} {K s m n : Nat} {S : zS} {a dd am : Int} {σ : zM} (w : wT t) (hs : s ≤ t.1) (hn : n < 8) (h : mOk t s m 0 S σ) (hS : S 1 = n) : ∃ τ, r169 K (iI a) (iI dd) (iI am) 1 σ = some (0, 0, τ) ∧ zFr Wmr σ τ ∧ mOk t (nx t s) m 0 (aRu S n a dd am m) τ := by
  obtain ⟨τ, f1, f2, f3, f4⟩ := zm236t (d := K + 15) w h.1 (aTf_l hs).2 h.2.1
  have ok := mMm_f h.2.2 f2
  have h1 : τ.1 0 61 1 = iI n := by rw [ok.2.2 1 (by decide), hS]
  have e : ∀ j : Nat, j < 4 → (88 + 4 * iI (n : Int)) + iI (j : Int) = iI ((88 + 4 * n + j : Nat) : Int) := fun j hj => by
    rw [show (88 : Int32) = iI 88 from rfl, show (4 : Int32) = iI 4 from rfl, iI_mul, iI_add, iI_add]; congr 1
  have e0 : (88 + 4 * iI (n : Int)) + 0 = iI ((88 + 4 * n : Nat) : Int) := e 0 (by decide)
  have e1 : (88 + 4 * iI (n : Int)) + 1 = iI ((88 + 4 * n + 1 : Nat) : Int) := e 1 (by decide)
  have e2 : (88 + 4 * iI (n : Int)) + 2 = iI ((88 + 4 * n + 2 : Nat) : Int) := e 2 (by decide)
  have e3 : (88 + 4 * iI (n : Int)) + 3 = iI ((88 + 4 * n + 3 : Nat) : Int) := e 3 (by decide)
  have hx : ∀ j : Nat, j < 4 → ∀ {x : zR}, zgd (zin (iI ((88 + 4 * n + j : Nat) : Int)) 320) x = x := fun j hj {x} => zgd_t (iI_ink (z := ((88 + 4 * n + j : Nat) : Int)) (k := 88 + 4 * n + j) rfl (show 88 + 4 * n + j < 320 by omega) (by decide))
  have hN : ∀ j : Nat, j < 4 → Int32.toNatClampNeg (iI ((88 + 4 * n + j : Nat) : Int)) = 88 + 4 * n + j := fun j hj => iI_Nn (by omega)
  have x0 : ∀ {x : zR}, zgd (zin (iI ((88 + 4 * n : Nat) : Int)) 320) x = x := fun {x} => hx 0 (by decide)
  have n0 : Int32.toNatClampNeg (iI ((88 + 4 * n : Nat) : Int)) = 88 + 4 * n := hN 0 (by decide)
  unfold r169
  rw [ez_247_169, f1]
  simp only [zbs, f4, h1, e0, e1, e2, e3, x0, hx 1 (by decide), hx 2 (by decide), hx 3 (by decide), n0, hN 1 (by decide), hN 2 (by decide), hN 3 (by decide)]
  rw [if_pos (by decide), zfe (by omega), zfe (by omega), zfe (by omega), ok.2.1, zfe (by omega), zfe (by omega), zfe (by omega), zfe (by omega), h1, hki1]
  refine ⟨_, rfl, zFr_tt (zFr_tt (zFr_tt (zFr_tt (zFr_tt (zFr_i f2 fun _ _ _ q => by omega) (zFr_w (by omega))) (zFr_w (by omega))) (zFr_w (by omega))) (zFr_w (by omega))) (zFr_w (by omega)), ?_, ?_, ?_, ?_, ?_⟩
  · refine ⟨⟨?_, fun i hi => ?_⟩, ?_, ?_⟩
    · rw [zfe (by omega), zfe (by omega), zfe (by omega), zfe (by omega), zfe (by omega)]; exact f3.1.1
    · rw [zfe (by omega), zfe (by omega), zfe (by omega), zfe (by omega), zfe (by omega)]; exact f3.1.2 i hi
    · rw [zfe (by omega), zfe (by omega), zfe (by omega), zfe (by omega), zfe (by omega)]; exact f3.2.1
    · rw [zfe (by omega), zfe (by omega), zfe (by omega), zfe (by omega), zfe (by omega)]; exact f3.2.2
  · rw [zfe (by omega), zfe (by omega), zfe (by omega), zfe (by omega), zfe (by omega)]; exact f4
  · rw [zfe (by omega), zfe (by omega), zfe (by omega), zfe (by omega), zfe (by omega)]; exact ok.1
  · rw [zfe (by omega), zfe (by omega), zfe (by omega), zfe (by omega), zfe (by omega)]; exact ok.2.1
  · unfold aRu
    rw [show 89 + 4 * n = 88 + 4 * n + 1 by omega, show 90 + 4 * n = 88 + 4 * n + 2 by omega, show 91 + 4 * n = 88 + 4 * n + 3 by omega]
    exact mS_w (mS_w (mS_w (mS_w (mS_w ok.2.2))))
theorem r137_o {t : zXt} {K s m : Nat} {S : zS} {a c e : Int32} {σ : zM} (w : wT t) (hs : s ≤ t.1) (h : mOk t s m 0 S σ) (he : σ.1 0 60 21 = e) : r137 K a c σ = if aWe t s = -14 then r169 K a c e 1 σ else r169 K a c e 0 σ := by
  have hl := w.1
  have hb := aBt_r w s
  have e59 : (iI (aBt t s) = 59) = (aWe t s = -14) := (iI_eq (b := 59) (by omega) (by decide)).trans aWe_59
  rw [r137_e, h.2.1, if_pos (by decide), h.1.2.1, zm232 (d := K + 19) h.1.1 w (show s ≤ 1000 by omega)]
  simp only [zbs, e59, he]
def dOu (t : zXt) (d n K : Nat) (dd : Int) (s3 : Nat) : Prop := (∃ s6 am, s6 ≤ t.1 ∧ tS t s6 ∧ nx t s3 ≤ s6 ∧ 0 ≤ am ∧ am ≤ 999 ∧ (∀ a m S σ, mOk t s3 m 0 S σ → S 1 = n → ∃ τ, r104 K (iI a) (iI dd) 1 σ = some (0, 0, τ) ∧ zFr Wmr σ τ ∧ mOk t s6 m 0 (aRu S n a dd am m) τ) ∧ (∀ c0 B b σ, b ≤ nx t s3 → cAt t (if dd = 2 then 3 else 2) n c0 0 B [] σ → ∃ b2 τ, b2 ≤ s6 ∧ cLp d (iI (b : Nat)) (iI (nx t s3 : Nat)) σ = cLp d (iI (b2 : Nat)) (iI (s6 : Nat)) τ ∧ zFr (fun g k i => (g = 4 ∧ (((k = 10 ∨ k = 11) ∧ i = n) ∨ (k = 7 ∧ i = 0))) ∨ (g = 0 ∧ k = 33)) σ τ ∧ cAt t 0 (n + 1) (c0 + B.length) 0 [] [] τ ∧ (dd < 2 → τ.1 4 10 n = iI am) ∧ τ.1 4 11 n = iI (c0 + B.length : Nat)))
  ∨ (∃ s6, s6 ≤ t.1 ∧ (∀ a m S σ, mOk t s3 m 0 S σ → ∃ τ, r104 K (iI a) (iI dd) 1 σ = some (0, 0, τ) ∧ zFr Wmr σ τ ∧ mBd t s6 0 τ) ∧ (∀ c0 B b σ, b ≤ nx t s3 → cAt t (if dd = 2 then 3 else 2) n c0 0 B [] σ → ∃ τ, cLp d (iI (b : Nat)) (iI (nx t s3 : Nat)) σ = some (iI (s6 : Nat), 0, τ) ∧ zFr (fun g k i => (g = 4 ∧ (((k = 10 ∨ k = 11) ∧ i = n) ∨ (k = 7 ∧ i = 0))) ∨ (g = 0 ∧ k = 33)) σ τ))
theorem zFr_mr {σ τ : zM} (f : zFr Wmp σ τ) : zFr Wmr σ τ := zFr_i f fun _ _ _ q => by omega
theorem dEn {t : zXt} {d n K : Nat} {dd am : Int} {s5 : Nat} (w : wT t) (hn : n < 8) (ht : tS t s5) : (aWe t s5 = -14 → (∀ a m S σ, mOk t s5 m 0 S σ → S 1 = n → σ.1 0 60 21 = iI am → ∃ τ, r137 K (iI a) (iI dd) σ = some (0, 0, τ) ∧ zFr Wmr σ τ ∧ mOk t (nx t s5) m 0 (aRu S n a dd am m) τ) ∧ (∀ c0 B b σ, b ≤ s5 → cAt t 3 n c0 0 B [] σ → ∃ τ, cLp d (iI (b : Nat)) (iI (s5 : Nat)) σ = cLp d (iI (aTf t s5 : Nat)) (iI (nx t s5 : Nat)) τ ∧ zFr (fun g k i => (g = 4 ∧ ((k = 11 ∧ i = n) ∨ (k = 7 ∧ i = 0))) ∨ (g = 0 ∧ k = 33)) σ τ ∧ cAt t 0 (n + 1) (c0 + B.length) 0 [] [] τ ∧ τ.1 4 11 n = iI (c0 + B.length : Nat)))
  ∧ (aWe t s5 ≠ -14 → (∀ a m S σ, mOk t s5 m 0 S σ → ∃ τ, r137 K (iI a) (iI dd) σ = some (0, 0, τ) ∧ zFr Wmr σ τ ∧ mBd t s5 0 τ) ∧ (∀ c0 B b σ, b ≤ s5 → cAt t 3 n c0 0 B [] σ → cLp d (iI (b : Nat)) (iI (s5 : Nat)) σ = some (iI (s5 : Nat), 0, σ))) := by
  have r5 := aWe_r (t := t) (s := s5)
  refine ⟨fun q => ⟨fun a m S σ h hS he => ?_, fun c0 B b σ hb h => ?_⟩, fun q => ⟨fun a m S σ h => ?_, fun c0 B b σ hb h => ?_⟩⟩
  · rw [r137_o w ht.1 h he, if_pos q]
    exact r169_o w ht.1 hn h hS
  · have hs : s5 < t.1 := aWe_s (by omega)
    obtain ⟨τ, e1, e2, e3, e4⟩ := t3e (d := d) h hn
    rw [← q] at e1
    refine ⟨τ, ?_, e2, e3, e4⟩
    rw [aWe_d hs] at e1
    rw [cLp_t h.1 w hs (ht.2 hs) hb h.2.2.1 hn e1 (zFr_i e2 fun _ _ _ q => by omega)]
    unfold nx
    rw [aTf_e hs]
  · refine ⟨zwI σ 0 60 24 1, ?_, zFr_w (by omega), mOk_x h⟩
    rw [r137_o w ht.1 h rfl, if_neg q]
    exact r169f h
  · exact cGx w ht hb hn h (by decide) fun _ => t3x (by omega) q
