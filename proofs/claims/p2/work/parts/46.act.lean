def aBg (pt : Bool) (t : zXt) (b : Int) : zXt := bif pt then t else (t.1 + 1, fun i => if i = t.1 then b else t.2 i)
theorem aBg_l {pt : Bool} {t : zXt} {b : Int} : (aBg pt t b).1 ≤ t.1 + 1 := by
  unfold aBg
  cases pt
  · exact Nat.le_refl _
  · exact Nat.le_succ _
theorem aBg_w {pt : Bool} {t : zXt} {b : Int} (h : ∀ i, i < t.1 → zrn (t.2 i)) (hb : zrn b) : ∀ i, i < (aBg pt t b).1 → zrn ((aBg pt t b).2 i) := by
  unfold aBg
  cases pt
  · intro i hi
    rw [cond_false] at hi ⊢
    show zrn (if i = t.1 then b else t.2 i)
    split
    · exact hb
    · exact h i (by have : i < t.1 + 1 := hi; omega)
  · exact h
def cQ (t : zXt) (pt : Bool) (k n a : Int) (σ : zM) : Prop := cAc t σ ∧ σ.1 0 49 2 = zB pt ∧ σ.1 0 49 3 = iI k ∧ σ.1 0 49 4 = iI n ∧ σ.1 0 49 5 = iI a
def mQ (t : zXt) (pt : Bool) (k n a : Int) (σ : zM) : Prop := mAc t σ ∧ σ.1 0 60 36 = zB pt ∧ σ.1 0 60 35 = iI k ∧ σ.1 0 60 33 = iI n ∧ σ.1 0 60 34 = iI a
abbrev WA : Nat → Nat → Nat → Prop := fun g k _ => g = 0 ∧ (k = 49 ∨ k = 50)
abbrev WB : Nat → Nat → Nat → Prop := fun g k i => g = 0 ∧ ((k = 60 ∧ (i = 32 ∨ i = 36)) ∨ k = 79)
theorem zc1 {d : Nat} {t : zXt} {pt : Bool} {k n a b : Int} {σ : zM} (h : cQ t pt k n a σ) (ht : t.1 < 30) : ∃ τ, zev (d + 1) 1 [.inr (.inr (0, 49)), .inl (iI b)] σ = some (0, 0, τ) ∧ zFr WA σ τ ∧ cQ (aBg pt t b) pt k n a τ := by
  obtain ⟨⟨h1, h2⟩, h3, h4, h5, h6⟩ := h
  rw [ez_1]
  simp only [h3, zBi]
  unfold aBg
  cases pt
  · rw [cond_false, cond_false, h1]
    have e30 : (iI (t.1 : Int) < 30) = ((t.1 : Int) < 30) := iI_lt (b := 30) (by omega) (by decide)
    simp only [e30, zgd_t (iI_ink (z := t.1) (k := t.1) rfl ht (by decide)), iI_Nn (show t.1 ≤ 2147483647 by omega)]
    rw [if_pos (by omega), zfe (by omega), h1, hki1]
    refine ⟨_, rfl, zFr_tt (zFr_w (by omega)) (zFr_w (by omega)), ⟨zfs, fun i hi => ?_⟩, by rw [zfe (by omega), zfe (by omega)]; exact h3, by rw [zfe (by omega), zfe (by omega)]; exact h4, by rw [zfe (by omega), zfe (by omega)]; exact h5, by rw [zfe (by omega), zfe (by omega)]; exact h6⟩
    show _ = iI (if i = t.1 then b else t.2 i)
    by_cases q : i = t.1
    · subst q; rw [if_pos rfl, zfe (by omega), zfs]
    · have : i < t.1 + 1 := hi
      rw [if_neg q, zfe (by omega), zfe (by omega)]; exact h2 i (by omega)
  · exact ⟨σ, rfl, zFr_r σ, ⟨h1, h2⟩, h3, h4, h5, h6⟩
theorem zm259 {d : Nat} {t : zXt} {pt : Bool} {k n a b : Int} {σ : zM} (h : mQ t pt k n a σ) (ht : t.1 < 30) : ∃ τ, zev (d + 1) 259 [.inr (.inr (0, 60)), .inl (iI b)] σ = some (0, 0, τ) ∧ zFr WB σ τ ∧ mQ (aBg pt t b) pt k n a τ := by
  obtain ⟨⟨h1, h2⟩, h3, h4, h5, h6⟩ := h
  rw [ez_259]
  simp only [h3, zBi]
  unfold aBg
  cases pt
  · rw [cond_false, cond_false, h1]
    have e30 : (iI (t.1 : Int) < 30) = ((t.1 : Int) < 30) := iI_lt (b := 30) (by omega) (by decide)
    simp only [e30, zgd_t (iI_ink (z := t.1) (k := t.1) rfl ht (by decide)), iI_Nn (show t.1 ≤ 2147483647 by omega)]
    rw [if_pos (by omega), zfe (by omega), h1, hki1]
    refine ⟨_, rfl, zFr_tt (zFr_w (by omega)) (zFr_w (by omega)), ⟨zfs, fun i hi => ?_⟩, by rw [zfe (by omega), zfe (by omega)]; exact h3, by rw [zfe (by omega), zfe (by omega)]; exact h4, by rw [zfe (by omega), zfe (by omega)]; exact h5, by rw [zfe (by omega), zfe (by omega)]; exact h6⟩
    show _ = iI (if i = t.1 then b else t.2 i)
    by_cases q : i = t.1
    · subst q; rw [if_pos rfl, zfe (by omega), zfs]
    · have : i < t.1 + 1 := hi
      rw [if_neg q, zfe (by omega), zfe (by omega)]; exact h2 i (by omega)
  · exact ⟨σ, rfl, zFr_r σ, ⟨h1, h2⟩, h3, h4, h5, h6⟩
def tSw (k : Int) (pt : Bool) (t : zXt) : zXt := aBg pt (if k = 1 then aBg pt t 20 else if k = 3 then aBg pt t 50 else t) 10
def vSw (k n : Int) (x : Int32) : Int32 := if k = 1 then (x + iI n) * 3 else if k = 3 then (x + iI n) ^^^ iI n else x + iI n
def tBd (k : Int) (pt : Bool) (t : zXt) : zXt := tSw k pt (aBg pt (if k = 2 ∨ k = 3 then aBg pt t 30 else if k = 5 then aBg pt t 60 else t) 11)
def vBd (k n a : Int) (x : Int32) : Int32 := if k = 2 ∨ k = 3 then vSw k n x * 2 - iI a else if k = 5 then 0 - vSw k n x * 2 else vSw k n x * 2
def pPs (n a : Int) (pt : Bool) : Bool := pt || decide (a = n)
def vPs (n a : Int) (x : Int32) : Int32 := if a = n then 0 else x / iI (a - n)
def tSh (k n a : Int) (pt : Bool) (t : zXt) : zXt := if k = 4 then aBg pt (aBg pt t 40) 12 else if k = 5 then tSw k (pPs n a pt) (aBg pt (aBg pt (aBg pt t 61) 40) 12) else aBg pt t 12
def vSh (k n a : Int) (x : Int32) : Int32 := if k = 4 then vPs n a (x + 1) else if k = 5 then vPs n a (x + 1) + vSw k n (iI a) else vPs n a x
def tTl (k n a : Int) (pt : Bool) (t : zXt) : zXt := if k = 3 then tSh k n a pt (tBd k pt (aBg pt (aBg pt t 51) 13)) else tBd k pt (aBg pt t 13)
def vTl (k n a : Int) (x : Int32) : Int32 := if k = 3 then (vBd k n a x ^^^ iI a) + vSh k n a (iI n) else vBd k n a x ^^^ iI a
theorem tSw_l {k : Int} {pt : Bool} {t : zXt} : (tSw k pt t).1 ≤ t.1 + 2 := by
  have h1 := aBg_l (pt := pt) (t := if k = 1 then aBg pt t 20 else if k = 3 then aBg pt t 50 else t) (b := 10)
  have h2 := aBg_l (pt := pt) (t := t) (b := 20)
  have h3 := aBg_l (pt := pt) (t := t) (b := 50)
  unfold tSw
  split at h1
  · rw [if_pos ‹_›]; omega
  · rw [if_neg ‹_›]
    split at h1
    · rw [if_pos ‹_›]; omega
    · rw [if_neg ‹_›]; omega
theorem ifn0 {k : Int} (hk : 1 ≤ k ∧ k ≤ 5) (j : Int) (hj : zrn j) : (iI k = iI j) = (k = j) := iI_eq (by omega) hj
theorem zc2 {d : Nat} {t : zXt} {pt : Bool} {k n a : Int} {x : Int32} {σ : zM} (hk : 1 ≤ k ∧ k ≤ 5) (h : cQ t pt k n a σ) (ht : t.1 < 28) : ∃ τ, zev (d + 3) 2 [.inr (.inr (0, 49)), .inl x] σ = some (vSw k n x, 0, τ) ∧ zFr WA σ τ ∧ cQ (tSw k pt t) pt k n a τ := by
  have e6 : ∀ (t : zXt) (σ : zM), cQ t pt k n a σ → t.1 < 30 → ∃ τ, zev (d + 2) 6 [.inr (.inr (0, 49)), .inl x] σ = some (x + iI n, 0, τ) ∧ zFr WA σ τ ∧ cQ (aBg pt t 10) pt k n a τ := by
    intro t σ h ht
    obtain ⟨τ, g1, g2, g3⟩ := zc1 (d := d) (b := 10) h ht
    have g1 : zev (d + 1) 1 [.inr (.inr (0, 49)), .inl 10] σ = _ := g1
    rw [ez_6]
    simp only [g1, zbs, g3.2.2.2.1]
    exact ⟨τ, rfl, g2, g3⟩
  have k1 : (iI k = 1) = (k = 1) := ifn0 hk 1 (by decide)
  have k3 : (iI k = 3) = (k = 3) := ifn0 hk 3 (by decide)
  rw [ez_2]
  simp only [h.2.2.1, k1, k3]
  unfold tSw vSw
  by_cases q1 : k = 1
  · obtain ⟨τ, g1, g2, g3⟩ := zc1 (d := d + 1) (b := 20) h (by omega)
    have g1 : zev (d + 2) 1 [.inr (.inr (0, 49)), .inl 20] σ = _ := g1
    obtain ⟨τ2, f1, f2, f3⟩ := e6 _ τ g3 (by have := aBg_l (pt := pt) (t := t) (b := 20); omega)
    simp only [if_pos q1, g1, f1, zbs]
    exact ⟨τ2, rfl, zFr_tt g2 f2, f3⟩
  · by_cases q3 : k = 3
    · obtain ⟨τ, g1, g2, g3⟩ := zc1 (d := d + 1) (b := 50) h (by omega)
      have g1 : zev (d + 2) 1 [.inr (.inr (0, 49)), .inl 50] σ = _ := g1
      obtain ⟨τ2, f1, f2, f3⟩ := e6 _ τ g3 (by have := aBg_l (pt := pt) (t := t) (b := 50); omega)
      simp only [if_neg q1, if_pos q3, g1, f1, zbs, f3.2.2.2.1]
      exact ⟨τ2, rfl, zFr_tt g2 f2, f3⟩
    · obtain ⟨τ2, f1, f2, f3⟩ := e6 _ σ h (by omega)
      simp only [if_neg q1, if_neg q3, f1, zbs]
      exact ⟨τ2, rfl, f2, f3⟩
theorem zm260 {d : Nat} {t : zXt} {pt : Bool} {k n a : Int} {x : Int32} {σ : zM} (hk : 1 ≤ k ∧ k ≤ 5) (h : mQ t pt k n a σ) (ht : t.1 < 28) : ∃ τ, zev (d + 2) 260 [.inr (.inr (0, 60)), .inl x] σ = some (vSw k n x, 0, τ) ∧ zFr WB σ τ ∧ mQ (tSw k pt t) pt k n a τ := by
  have e10 : ∀ (t : zXt) (σ : zM), mQ t pt k n a σ → t.1 < 30 → ∃ τ, zev (d + 1) 259 [.inr (.inr (0, 60)), .inl 10] σ = some (0, 0, τ) ∧ zFr WB σ τ ∧ mQ (aBg pt t 10) pt k n a τ := fun t σ h ht => zm259 (d := d) (b := 10) h ht
  have k1 : (iI k = 1) = (k = 1) := ifn0 hk 1 (by decide)
  have k3 : (iI k = 3) = (k = 3) := ifn0 hk 3 (by decide)
  rw [ez_260]
  simp only [h.2.2.1, k1, k3]
  unfold tSw vSw
  by_cases q1 : k = 1
  · obtain ⟨τ, g1, g2, g3⟩ := zm259 (d := d) (b := 20) h (by omega)
    have g1 : zev (d + 1) 259 [.inr (.inr (0, 60)), .inl 20] σ = _ := g1
    obtain ⟨τ2, f1, f2, f3⟩ := e10 _ τ g3 (by have := aBg_l (pt := pt) (t := t) (b := 20); omega)
    simp only [if_pos q1, g1, f1, zbs, f3.2.2.2.1]
    exact ⟨τ2, rfl, zFr_tt g2 f2, f3⟩
  · by_cases q3 : k = 3
    · obtain ⟨τ, g1, g2, g3⟩ := zm259 (d := d) (b := 50) h (by omega)
      have g1 : zev (d + 1) 259 [.inr (.inr (0, 60)), .inl 50] σ = _ := g1
      obtain ⟨τ2, f1, f2, f3⟩ := e10 _ τ g3 (by have := aBg_l (pt := pt) (t := t) (b := 50); omega)
      simp only [if_neg q1, if_pos q3, g1, f1, zbs, f3.2.2.2.1]
      exact ⟨τ2, rfl, zFr_tt g2 f2, f3⟩
    · obtain ⟨τ2, f1, f2, f3⟩ := e10 _ σ h (by omega)
      simp only [if_neg q1, if_neg q3, f1, zbs, f3.2.2.2.1]
      exact ⟨τ2, rfl, f2, f3⟩
theorem zc3 {d : Nat} {t : zXt} {pt : Bool} {k n a : Int} {x : Int32} {σ : zM} (hk : 1 ≤ k ∧ k ≤ 5) (h : cQ t pt k n a σ) (ht : t.1 < 26) : ∃ τ, zev (d + 5) 3 [.inr (.inr (0, 49)), .inl x] σ = some (vBd k n a x, 0, τ) ∧ zFr WA σ τ ∧ cQ (tBd k pt t) pt k n a τ := by
  have e7 : ∀ (t : zXt) (σ : zM), cQ t pt k n a σ → t.1 < 27 → ∃ τ, zev (d + 4) 7 [.inr (.inr (0, 49)), .inl x] σ = some (vSw k n x * 2, 0, τ) ∧ zFr WA σ τ ∧ cQ (tSw k pt (aBg pt t 11)) pt k n a τ := by
    intro t σ h ht
    obtain ⟨τ, g1, g2, g3⟩ := zc1 (d := d + 2) (b := 11) h (by omega)
    have g1 : zev (d + 3) 1 [.inr (.inr (0, 49)), .inl 11] σ = _ := g1
    obtain ⟨τ2, f1, f2, f3⟩ := zc2 (d := d) (x := x) hk g3 (by have := aBg_l (pt := pt) (t := t) (b := 11); omega)
    rw [ez_7]
    simp only [g1, f1, zbs]
    exact ⟨τ2, rfl, zFr_tt g2 f2, f3⟩
  have ks : ∀ j : Int, zrn j → (iI k = iI j) = (k = j) := ifn0 hk
  have k2 : (iI k = 2) = (k = 2) := ks 2 (by decide)
  have k3 : (iI k = 3) = (k = 3) := ks 3 (by decide)
  have k4 : (iI k = 4) = (k = 4) := ks 4 (by decide)
  have k5 : (iI k = 5) = (k = 5) := ks 5 (by decide)
  rw [ez_3]
  simp only [h.2.2.1, k2, k3, k4, k5]
  unfold tBd vBd
  by_cases q23 : k = 2 ∨ k = 3
  · obtain ⟨τ, g1, g2, g3⟩ := zc1 (d := d + 3) (b := 30) h (by omega)
    have g1 : zev (d + 4) 1 [.inr (.inr (0, 49)), .inl 30] σ = _ := g1
    obtain ⟨τ2, f1, f2, f3⟩ := e7 _ τ g3 (by have := aBg_l (pt := pt) (t := t) (b := 30); omega)
    rw [if_pos q23, if_pos q23]
    refine ⟨τ2, ?_, zFr_tt g2 f2, f3⟩
    by_cases q2 : k = 2
    · rw [if_pos q2]; simp only [g1, f1, zbs, f3.2.2.2.2]
    · rw [if_neg q2, if_pos (by omega)]; simp only [g1, f1, zbs, f3.2.2.2.2]
  · rw [if_neg q23, if_neg q23, if_neg (show ¬ k = 2 by omega), if_neg (show ¬ k = 3 by omega)]
    by_cases q5 : k = 5
    · obtain ⟨τ, g1, g2, g3⟩ := zc1 (d := d + 3) (b := 60) h (by omega)
      have g1 : zev (d + 4) 1 [.inr (.inr (0, 49)), .inl 60] σ = _ := g1
      obtain ⟨τ2, f1, f2, f3⟩ := e7 _ τ g3 (by have := aBg_l (pt := pt) (t := t) (b := 60); omega)
      rw [if_neg (show ¬ k = 4 by omega), if_pos q5, if_pos q5, if_pos q5]
      simp only [g1, f1, zbs]
      exact ⟨τ2, rfl, zFr_tt g2 f2, f3⟩
    · obtain ⟨τ2, f1, f2, f3⟩ := e7 _ σ h (by omega)
      rw [if_neg q5, if_neg q5, if_neg q5]
      refine ⟨τ2, ?_, f2, f3⟩
      by_cases q4 : k = 4
      · rw [if_pos q4]; simp only [f1, zbs]
      · rw [if_neg q4]; simp only [f1, zbs]
theorem zm261 {d : Nat} {t : zXt} {pt : Bool} {k n a : Int} {x : Int32} {σ : zM} (hk : 1 ≤ k ∧ k ≤ 5) (h : mQ t pt k n a σ) (ht : t.1 < 26) : ∃ τ, zev (d + 3) 261 [.inr (.inr (0, 60)), .inl x] σ = some (vBd k n a x, 0, τ) ∧ zFr WB σ τ ∧ mQ (tBd k pt t) pt k n a τ := by
  have ks : ∀ j : Int, zrn j → (iI k = iI j) = (k = j) := ifn0 hk
  have k2 : (iI k = 2) = (k = 2) := ks 2 (by decide)
  have k3 : (iI k = 3) = (k = 3) := ks 3 (by decide)
  have k5 : (iI k = 5) = (k = 5) := ks 5 (by decide)
  have e46 : ∀ (t : zXt) (σ : zM) (dr : Bool) (d3 : Option zV), mQ t pt k n a σ → t.1 < 27 → ∃ τ, zrun (zev (d + 2)) zT_261 46 [some (.inr (.inr (0, 60))), some (.inl x), some (.inl (zB dr)), d3] [] σ = some (bif dr then vSw k n x * 2 - iI a else if k = 5 then 0 - vSw k n x * 2 else vSw k n x * 2, 0, τ) ∧ zFr WB σ τ ∧ mQ (tSw k pt (aBg pt t 11)) pt k n a τ := by
    intro t σ dr d3 h ht
    obtain ⟨τ, g1, g2, g3⟩ := zm259 (d := d + 1) (b := 11) h (by omega)
    have g1 : zev (d + 2) 259 [.inr (.inr (0, 60)), .inl 11] σ = _ := g1
    obtain ⟨τ2, f1, f2, f3⟩ := zm260 (d := d) (x := x) hk g3 (by have := aBg_l (pt := pt) (t := t) (b := 11); omega)
    rw [ez_261_46]
    simp only [g1, f1, zbs, zBi, f3.2.2.1, k5, f3.2.2.2.2]
    refine ⟨τ2, ?_, zFr_tt g2 f2, f3⟩
    cases dr
    · rw [cond_false, cond_false]
      by_cases q5 : k = 5
      · rw [if_pos q5, if_pos q5]
      · rw [if_neg q5, if_neg q5]
    · rfl
  unfold tBd vBd
  by_cases q23 : k = 2 ∨ k = 3
  · obtain ⟨τ, g1, g2, g3⟩ := zm259 (d := d + 1) (b := 30) h (by omega)
    have g1 : zev (d + 2) 259 [.inr (.inr (0, 60)), .inl 30] σ = _ := g1
    obtain ⟨τ2, f1, f2, f3⟩ := e46 _ τ true none g3 (by have := aBg_l (pt := pt) (t := t) (b := 30); omega)
    have f1 : zrun (zev (d + 2)) zT_261 46 [some (.inr (.inr (0, 60))), some (.inl x), some (.inl 1), none] [] τ = some (vSw k n x * 2 - iI a, 0, τ2) := f1
    have t16 : zrun (zev (d + 2)) zT_261 16 [some (.inr (.inr (0, 60))), some (.inl x), none, none] [] σ = some (vSw k n x * 2 - iI a, 0, τ2) := by
      rw [ez_261_16, ez_261_21, if_neg (by decide), g1, zbs, ez_261_32, g3.2.2.1, if_neg (by rw [k5]; omega)]
      exact f1
    rw [if_pos q23, if_pos q23, ez_261, h.2.2.1]
    simp only [k2, k3]
    refine ⟨τ2, ?_, zFr_tt g2 f2, f3⟩
    by_cases q2 : k = 2
    · rw [if_pos q2]; exact t16
    · rw [if_neg q2, if_pos (by omega)]; exact t16
  · rw [if_neg q23, if_neg q23, ez_261, h.2.2.1]
    simp only [k2, k3]
    rw [if_neg (show ¬ k = 2 by omega), if_neg (show ¬ k = 3 by omega), ez_261_21, if_pos rfl, ez_261_32, h.2.2.1]
    simp only [k5]
    by_cases q5 : k = 5
    · obtain ⟨τ, g1, g2, g3⟩ := zm259 (d := d + 1) (b := 60) h (by omega)
      have g1 : zev (d + 2) 259 [.inr (.inr (0, 60)), .inl 60] σ = _ := g1
      obtain ⟨τ2, f1, f2, f3⟩ := e46 _ τ false none g3 (by have := aBg_l (pt := pt) (t := t) (b := 60); omega)
      have f1 : zrun (zev (d + 2)) zT_261 46 [some (.inr (.inr (0, 60))), some (.inl x), some (.inl 0), none] [] τ = some (if k = 5 then 0 - vSw k n x * 2 else vSw k n x * 2, 0, τ2) := f1
      rw [if_pos q5, if_pos q5, if_pos q5, g1, zbs, f1, if_pos q5]
      exact ⟨τ2, rfl, zFr_tt g2 f2, f3⟩
    · obtain ⟨τ2, f1, f2, f3⟩ := e46 _ σ false none h (by omega)
      have f1 : zrun (zev (d + 2)) zT_261 46 [some (.inr (.inr (0, 60))), some (.inl x), some (.inl 0), none] [] σ = some (if k = 5 then 0 - vSw k n x * 2 else vSw k n x * 2, 0, τ2) := f1
      rw [if_neg q5, if_neg q5, if_neg q5, f1, if_neg q5]
      exact ⟨τ2, rfl, f2, f3⟩
theorem zc9 {d : Nat} {t : zXt} {pt : Bool} {k n a : Int} {x : Int32} {σ : zM} (hn : zrn n) (ha : zrn a) (hd : zrn (a - n)) (h : cQ t pt k n a σ) (ht : t.1 < 30) : ∃ τ, zev (d + 2) 9 [.inr (.inr (0, 49)), .inl x] σ = some (vPs n a x, 0, τ) ∧ zFr WA σ τ ∧ cQ (aBg pt t 12) (pPs n a pt) k n a τ := by
  obtain ⟨τ, g1, g2, g3⟩ := zc1 (d := d) (b := 12) h ht
  have g1 : zev (d + 1) 1 [.inr (.inr (0, 49)), .inl 12] σ = _ := g1
  rw [ez_9]
  simp only [g1, zbs, g3.2.2.2.1, g3.2.2.2.2, iI_eq ha hn, iI_sub, iI_0 hd]
  unfold vPs pPs
  by_cases q : a = n
  · rw [if_pos q, if_pos q, zgd_t (by decide), decide_eq_true q, Bool.or_true]
    obtain ⟨⟨h1, h2⟩, h3, h4, h5, h6⟩ := g3
    exact ⟨_, rfl, zFr_tt g2 (zFr_w (by omega)), ⟨by rw [zfe (by omega)]; exact h1, fun i hi => by rw [zfe (by omega)]; exact h2 i hi⟩, by rw [zfs]; rfl, by rw [zfe (by omega)]; exact h4, by rw [zfe (by omega)]; exact h5, by rw [zfe (by omega)]; exact h6⟩
  · rw [if_neg q, if_neg q, if_neg (by omega), decide_eq_false q, Bool.or_false]
    exact ⟨τ, rfl, g2, g3⟩
theorem zm262 {d : Nat} {t : zXt} {pt : Bool} {k n a : Int} {x : Int32} {σ : zM} (hn : zrn n) (ha : zrn a) (hd : zrn (a - n)) (h : mQ t pt k n a σ) (ht : t.1 < 30) : ∃ τ, zev (d + 2) 262 [.inr (.inr (0, 60)), .inl x] σ = some (vPs n a x, 0, τ) ∧ zFr WB σ τ ∧ mQ (aBg pt t 12) (pPs n a pt) k n a τ := by
  obtain ⟨τ, g1, g2, g3⟩ := zm259 (d := d) (b := 12) h ht
  have g1 : zev (d + 1) 259 [.inr (.inr (0, 60)), .inl 12] σ = _ := g1
  rw [ez_262]
  simp only [g1, zbs, g3.2.2.2.1, g3.2.2.2.2, iI_eq ha hn, iI_sub, iI_0 hd]
  unfold vPs pPs
  by_cases q : a = n
  · rw [if_pos q, if_pos q, zgd_t (by decide), decide_eq_true q, Bool.or_true]
    obtain ⟨⟨h1, h2⟩, h3, h4, h5, h6⟩ := g3
    exact ⟨_, rfl, zFr_tt g2 (zFr_w (by omega)), ⟨by rw [zfe (by omega)]; exact h1, fun i hi => by rw [zfe (by omega)]; exact h2 i hi⟩, by rw [zfs]; rfl, by rw [zfe (by omega)]; exact h4, by rw [zfe (by omega)]; exact h5, by rw [zfe (by omega)]; exact h6⟩
  · rw [if_neg q, if_neg q, if_neg (by omega), decide_eq_false q, Bool.or_false]
    exact ⟨τ, rfl, g2, g3⟩
