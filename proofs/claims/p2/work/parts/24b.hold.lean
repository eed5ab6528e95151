abbrev zfnd (o : Option Nat) : Int := match o with
  | none => -1
  | some k => ((88 + 4 * k : Nat) : Int)
theorem zm165_98 {d b : Nat} {S : zS} {σ : zM} {o : Option Nat} {d4 d5 d6 d7 d8 : Option zV} (hS : mS 61 S σ) (w : wB S) (v : wW S) (u : wU S) (hb : b < (S 0).toNat) (ho : ∀ k, o = some k → k < (S 1).toNat) : zrun (zev (d + 2)) zT_165 98 [some (.inr (.inr (0, 60))), some (.inl (iI b)), some (.inl (iI (S (7 + 5 * b)))), some (.inl (iI (zfnd o))), d4, d5, d6, d7, d8] [] σ = some (iI (aKnd S b (aHlf S b o)), 0, σ) := by
  have w0 := w.1
  have w1 := w.2.1
  have w2 := w.2.2 b hb
  have e3 := zm156 (d := d) (b := b) (w := 3) hS (by omega)
  rw [show 7 + 5 * b + 3 = 10 + 5 * b by omega] at e3
  have e3 : zev (d + 2) 156 [.inr (.inr (0, 60)), .inl (iI b), .inl 3] σ = _ := e3
  have e2 := zm156 (d := d) (b := b) (w := 2) hS (by omega)
  rw [show 7 + 5 * b + 2 = 9 + 5 * b by omega] at e2
  have e2 : zev (d + 2) 156 [.inr (.inr (0, 60)), .inl (iI b), .inl 2] σ = _ := e2
  have k0 : ∀ {z : Int}, zrn z → (iI z = 0) = (z = 0) := fun h => iI_0 h
  have k1 : ∀ {z : Int}, zrn z → (iI z = 1) = (z = 1) := fun h => iI_eq (b := 1) h (by decide)
  have k2 : ∀ {z : Int}, zrn z → (iI z = 2) = (z = 2) := fun h => iI_eq (b := 2) h (by decide)
  have k3 : ∀ {z : Int}, zrn z → (iI z = 3) = (z = 3) := fun h => iI_eq (b := 3) h (by decide)
  have k4 : ∀ {z : Int}, zrn z → (iI z = 4) = (z = 4) := fun h => iI_eq (b := 4) h (by decide)
  have hv := v
  obtain ⟨v1, v2, -, -⟩ := v
  have tail : ∀ (h : Int) (d3 d4 d5 d6 d7 d8 : Option zV), 0 ≤ h → h ≤ 2000 → zrun (zev (d + 2)) zT_165 194 [some (.inr (.inr (0, 60))), some (.inl (iI b)), some (.inl (iI (S (7 + 5 * b)))), d3, d4, d5, d6, d7, d8] [.inl (iI h)] σ = some (iI (aKnd S b h), 0, σ) := by
    intro h d3 d4 d5 d6 d7 d8 h0 h1
    have hk : zrn (S (7 + 5 * b)) := by omega
    rw [ez_165_194, e2, zbs, aKnd_d]
    simp only [hS 4 (by decide), k1 hk, k2 hk, k3 hk, k4 hk, iI_d2 h0 (by omega)]
    by_cases q1 : S (7 + 5 * b) = 1
    · simp only [if_pos q1]
      show (some (iI h + iI 10 * iI (S 4), 0, σ) : zR) = _
      rw [iI_mul, iI_add]
    by_cases q2 : S (7 + 5 * b) = 2
    · simp only [if_neg q1, if_pos q2]
    by_cases q3 : S (7 + 5 * b) = 3
    · simp only [if_neg q1, if_neg q2, if_pos q3, iI_sub, iI_lt0 (show zrn (h / 2 - S (9 + 5 * b)) by omega)]
      by_cases q5 : h / 2 - S (9 + 5 * b) < 0
      · simp only [if_pos q5]; rfl
      · simp only [if_neg q5]
    by_cases q4 : S (7 + 5 * b) = 4
    · simp only [if_neg q1, if_neg q2, if_neg q3, if_pos q4]
      show (some (iI h + iI 50, 0, σ) : zR) = _
      rw [iI_add]
    · simp only [if_neg q1, if_neg q2, if_neg q3, if_neg q4]
      show (some (iI 2 * (iI h + iI 50), 0, σ) : zR) = _
      rw [iI_add, iI_mul]
  have t2 : ∀ (h h' : Int) (d3 d4 d5 d6 d7 d8 : Option zV), -1000 ≤ h → h ≤ 2000 → h' = (if h < 0 then 0 else h) → zrun (zev (d + 2)) zT_165 181 [some (.inr (.inr (0, 60))), some (.inl (iI b)), some (.inl (iI (S (7 + 5 * b)))), d3, d4, d5, d6, d7, d8] [.inl (iI h)] σ = some (iI (aKnd S b h'), 0, σ) := by
    intro h h' d3 d4 d5 d6 d7 d8 h0 h1 e
    rw [ez_165_181]
    simp only [iI_lt0 (show zrn h by omega)]
    by_cases q : h < 0
    · rw [if_pos q] at e
      rw [if_pos q, e]
      exact tail 0 _ _ _ _ _ _ (by omega) (by omega)
    · rw [if_neg q] at e
      rw [if_neg q, e]
      exact tail h _ _ _ _ _ _ (by omega) (by omega)
  rw [ez_165_98]
  cases o with
  | none =>
    rw [if_pos (by decide), ez_165_114, if_pos (by decide), ez_165_132, e3, zbs]
    show (if iI (-1) = 0 then _ else if iI (-1) = 1 then _ else if iI (-1) = 2 then _ else _) = _
    rw [if_neg (by decide), if_neg (by decide), if_neg (by decide)]
    exact t2 (S (10 + 5 * b)) _ _ _ _ _ _ _ (by omega) (by omega) (by show S (10 + 5 * b) = _; rw [if_neg (by omega)])
  | some k =>
    have hk := ho k rfl
    have u0 := u.1
    have u1 := u.2.1
    have u2 := u.2.2 k hk
    have a1 : iI (zfnd (some k)) + 1 = iI ((89 + 4 * k : Nat) : Int) := by rw [iI_a1]; congr 1; show ((88 + 4 * k : Nat) : Int) + 1 = _; omega
    have a2 : iI (zfnd (some k)) + 2 = iI ((90 + 4 * k : Nat) : Int) := by
      show iI ((88 + 4 * k : Nat) : Int) + iI 2 = _
      rw [iI_add]; congr 1 <;> omega
    have hn : ¬ iI (zfnd (some k)) < 0 := by
      show ¬ iI ((88 + 4 * k : Nat) : Int) < 0
      rw [iI_lt0 (by omega)]; omega
    have hd : zrn (S (89 + 4 * k)) := by omega
    rw [if_neg hn, a1, zgd_t (iI_ink (k := 89 + 4 * k) rfl (by omega) (by decide)), iI_Nn (n := 89 + 4 * k) (by omega), hS _ (by omega), ez_165_114, if_neg hn, a2, zgd_t (iI_ink (k := 90 + 4 * k) rfl (by omega) (by decide)), iI_Nn (n := 90 + 4 * k) (by omega), hS _ (by omega), ez_165_132, e3, zbs]
    simp only [k0 hd, k1 hd, k2 hd]
    have ee : aHlf S b (some k) = if S (89 + 4 * k) = 0 then S (10 + 5 * b) + S (90 + 4 * k) else if S (89 + 4 * k) = 1 then (if S (10 + 5 * b) - S (90 + 4 * k) < 0 then 0 else S (10 + 5 * b) - S (90 + 4 * k)) else 0 := rfl
    by_cases q0 : S (89 + 4 * k) = 0
    · rw [if_pos q0] at ee
      simp only [if_pos q0, iI_add]
      exact t2 _ _ _ _ _ _ _ _ (by omega) (by omega) (by rw [ee, if_neg (by omega)])
    · by_cases q1 : S (89 + 4 * k) = 1
      · rw [if_neg q0, if_pos q1] at ee
        simp only [if_neg q0, if_pos q1, iI_sub]
        exact t2 _ _ _ _ _ _ _ _ (by omega) (by omega) ee
      · rw [if_neg q0, if_neg q1] at ee
        have q2 : S (89 + 4 * k) = 2 := by omega
        simp only [if_neg q0, if_neg q1, if_pos q2]
        exact t2 0 _ _ _ _ _ _ _ (by omega) (by omega) (by rw [ee]; rfl)
theorem zm165_15 {d b : Nat} {S : zS} (w : wB S) (v : wW S) (u : wU S) (hb : b < (S 0).toNat) : ∀ (n k : Nat) (σ : zM) (d6 d7 d8 : Option zV), mS 61 S σ → k + n = (S 1).toNat → ∃ τ, zrun (zev (d + 4)) zT_165 15 [some (.inr (.inr (0, 60))), some (.inl (iI b)), some (.inl (iI (S (7 + 5 * b)))), some (.inl (iI (-1))), some (.inl (iI (aEnd S k))), some (.inl (iI k)), d6, d7, d8] [] σ = some (iI (aKnd S b (aHlf S b (aFst S b n k))), 0, τ) ∧ zFr (Wk 0 64) σ τ
  | 0, k, σ, d6, d7, d8, hS, hk => by
    have u0 := u.1
    have u1 := u.2.1
    rw [ez_165_15, hS 1 (by decide), if_neg (by rw [iI_lt (by omega) (by omega)]; omega)]
    exact ⟨σ, zm165_98 (d := d + 2) (o := none) hS w v u hb (fun _ h => by cases h), zFr_r σ⟩
  | n + 1, k, σ, d6, d7, d8, hS, hk => by
    have u0 := u.1
    have u1 := u.2.1
    have w0 := w.1
    have w1 := w.2.1
    have w2 := w.2.2 b hb
    have u2 := u.2.2 k (by omega)
    have hki : iI (k : Int) + 1 = iI ((k + 1 : Nat) : Int) := by rw [iI_a1]; congr 1 <;> omega
    have he : S (91 + 4 * k) = (aEnd S (k + 1) : Int) := by
      show S (91 + 4 * k) = ((S (91 + 4 * k)).toNat : Int)
      omega
    have i0 : 88 + 4 * iI (k : Int) + 0 = iI ((88 + 4 * k : Nat) : Int) := by
      show iI 88 + iI 4 * iI (k : Int) + iI 0 = _
      rw [iI_mul, iI_add, iI_add]; congr 1 <;> omega
    have i1 : 88 + 4 * iI (k : Int) = iI ((88 + 4 * k : Nat) : Int) := by
      show iI 88 + iI 4 * iI (k : Int) = _
      rw [iI_mul, iI_add]; congr 1 <;> omega
    have i3 : iI ((88 + 4 * k : Nat) : Int) + 3 = iI ((91 + 4 * k : Nat) : Int) := by
      show iI ((88 + 4 * k : Nat) : Int) + iI 3 = _
      rw [iI_add]; congr 1 <;> omega
    have i4 : iI ((88 + 4 * k : Nat) : Int) + 0 = iI ((88 + 4 * k : Nat) : Int) := by
      show iI ((88 + 4 * k : Nat) : Int) + iI 0 = _
      rw [iI_add]; congr 1 <;> omega
    rw [ez_165_15, hS 1 (by decide), if_pos (by rw [iI_lt (by omega) (by omega)]; omega), if_pos (by decide)]
    simp only [i1, i3, i4, zgd_t (iI_ink (k := 88 + 4 * k) (z := ((88 + 4 * k : Nat) : Int)) rfl (show 88 + 4 * k < 320 by omega) (by decide)), zgd_t (iI_ink (k := 91 + 4 * k) (z := ((91 + 4 * k : Nat) : Int)) rfl (show 91 + 4 * k < 320 by omega) (by decide)), iI_Nn (show 88 + 4 * k ≤ 2147483647 by omega), iI_Nn (show 91 + 4 * k ≤ 2147483647 by omega), hS (88 + 4 * k) (by omega), zm161 (show 0 ≤ S (7 + 5 * b) ∧ S (7 + 5 * b) ≤ 5 by omega) (show 0 ≤ S (88 + 4 * k) ∧ S (88 + 4 * k) ≤ 5 by omega), zbs, zBi, hS (91 + 4 * k) (by omega), he, hki]
    cases q1 : aUnd (S (7 + 5 * b)) (S (88 + 4 * k))
    · rw [cond_false]
      have e : aFst S b (n + 1) k = aFst S b n (k + 1) := by
        show (bif aUnd (S (7 + 5 * b)) (S (88 + 4 * k)) && aCnd S b k then some k else aFst S b n (k + 1)) = _
        rw [q1]; rfl
      rw [e]
      exact zm165_15 w v u hb n (k + 1) σ _ _ _ hS (by omega)
    · rw [cond_true]
      have ee : aEnd S (k + 1) = aEnd S k + (aEnd S (k + 1) - aEnd S k) := by omega
      have hne := u2.2.2.2.2.2.2.2.2.2 (aFct S b)
      cases hcv : zmC (aFct S b) (aCod S) (aEnd S k) (aEnd S (k + 1) - aEnd S k) with
      | none => exact absurd hcv hne
      | some cv =>
        obtain ⟨τ, c1, c2⟩ := zm164 (d := d) (k := aEnd S k) (n := aEnd S (k + 1) - aEnd S k) (σ := σ) (by omega) (by omega) hS hcv
        rw [← ee] at c1
        have hS' : mS 61 S τ := mS_f hS (zFr_f c2 (fun i => by omega))
        have hcn := aCnd_s hcv
        rw [c1]
        simp only [zbs, zBi, hS' (91 + 4 * k) (by omega), he]
        cases cv
        · rw [cond_false]
          have e : aFst S b (n + 1) k = aFst S b n (k + 1) := by
            show (bif aUnd (S (7 + 5 * b)) (S (88 + 4 * k)) && aCnd S b k then some k else aFst S b n (k + 1)) = _
            rw [hcn, Bool.and_false]; rfl
          rw [e]
          obtain ⟨τ2, b1, b2⟩ := zm165_15 (d := d) w v u hb n (k + 1) τ _ _ _ hS' (by omega)
          exact ⟨τ2, b1, zFr_tt c2 b2⟩
        · rw [cond_true]
          have e : aFst S b (n + 1) k = some k := by
            show (bif aUnd (S (7 + 5 * b)) (S (88 + 4 * k)) && aCnd S b k then some k else aFst S b n (k + 1)) = _
            rw [q1, hcn]; rfl
          rw [e, ez_165_15]
          refine ⟨τ, ?_, c2⟩
          have hh := zm165_98 (d := d + 2) (o := some k) (σ := τ) (d4 := some (.inl (iI (aEnd S (k + 1))))) (d5 := some (.inl (iI ((k + 1 : Nat) : Int)))) (d6 := none) (d7 := none) (d8 := none) hS' w v u hb (fun j hj => by cases hj; omega)
          by_cases q : iI ((k + 1 : Nat) : Int) < τ.1 0 61 1
          · rw [if_pos q, if_neg (by show ¬ iI ((88 + 4 * k : Nat) : Int) < 0; rw [iI_lt0 (by omega)]; omega)]
            exact hh
          · rw [if_neg q]
            exact hh
theorem zm165 {d b : Nat} {S : zS} {σ : zM} (hS : mS 61 S σ) (w : wB S) (v : wW S) (u : wU S) (hb : b < (S 0).toNat) : ∃ τ, zev (d + 5) 165 [.inr (.inr (0, 60)), .inl (iI b)] σ = some (iI (aHold S b), 0, τ) ∧ zFr (Wk 0 64) σ τ := by
  have w0 := w.1
  have w1 := w.2.1
  rw [ez_165]
  have e0 := zm156 (d := d + 2) (b := b) (w := 0) hS (by omega)
  rw [show 7 + 5 * b + 0 = 7 + 5 * b by omega] at e0
  have e0 : zev (d + 4) 156 [.inr (.inr (0, 60)), .inl (iI b), .inl 0] σ = _ := e0
  simp only [e0, zbs]
  exact zm165_15 w v u hb ((S 1).toNat) 0 σ _ _ _ hS (by omega)
