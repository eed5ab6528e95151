def xsh (x : zXx) (h : zXh) : zXx := (x.1, x.2.1, x.2.2.1, x.2.2.2.1, x.2.2.2.2.1, h, x.2.2.2.2.2.2)
theorem RC_h {x : zXx} {h' : zXh} {σ τ : zM} (h : RC x σ) (e : ∀ g k, ¬ (g = 0 ∧ 42 ≤ k ∧ k ≤ 48) → τ.1 g k = σ.1 g k) (hh : cHo h' τ) : RC (xsh x h') τ := by
  obtain ⟨h1, h2, h3, h4, h5, h6⟩ := h
  exact ⟨cA_c h1 (fun k a b c d => e 0 k (by omega)) (by rw [e 0 19 (by omega)]), cKe_f (x := x) h2 (by rw [e 0 30 (by omega)]) (fun k hk => e 2 k (by omega)), cTp_f h3 (by rw [e 0 31 (by omega)]) (e 0 32 (by omega)), cRo_f h4 (by rw [e 0 38 (by omega)]) (fun k => e k 40 (by omega)), hh, cAc_f h6 (by rw [e 0 49 (by omega)]) (e 0 50 (by omega))⟩
theorem RM_h {x : zXx} {h' : zXh} {σ τ : zM} (h : RM x σ) (e : ∀ k, ¬ (73 ≤ k ∧ k ≤ 78) → τ.1 0 k = σ.1 0 k) (hh : mHo h' τ) : RM (xsh x h') τ := by
  obtain ⟨h1, h2, h3, h4, h5, h6⟩ := h
  exact ⟨mS_f h1 (e 61 (by omega)), mKe_f (x := x) h2 (by rw [e 60 (by omega)]) (e 62 (by omega)), mTp_f h3 (by rw [e 60 (by omega)]) (e 72 (by omega)), mRo_f h4 (by rw [e 60 (by omega)]) (e 71 (by omega)), hh, mAc_f h6 (by rw [e 60 (by omega)]) (e 79 (by omega))⟩
theorem zc144 {d : Nat} {z : Int} {σ : zM} (hz : zrn z) : zev (d + 2) 144 [.inl (iI z)] σ = some (zB (decide (0 ≤ z ∧ z ≤ 3)), 0, σ) := by
  have e : zev (d + 1) 141 [.inl (iI z), .inl 0, .inl 3] σ = some (zB (decide (0 ≤ z ∧ z ≤ 3)), 0, σ) := zc141 (l := 0) (h := 3) hz (by decide) (by decide)
  rw [ez_144]
  simp only [e, zbs]
  exact zB_g
theorem zm249 {d : Nat} {z : Int} {σ : zM} (hz : zrn z) : zev (d + 2) 249 [.inl (iI z)] σ = some (zB (decide (0 ≤ z ∧ z ≤ 3)), 0, σ) := by
  have e : zev (d + 1) 149 [.inr (.inl (Int32.toInt64 (iI z))), .inr (.inl 0), .inr (.inl 3)] σ = some (zB (decide (0 ≤ z ∧ z ≤ 3)), 0, σ) := zm149k (l := 0) (h := 3) hz (by decide) (by decide)
  rw [ez_249]
  simp only [e, zbs]
  exact zB_g
theorem lI_0 : lI 0 = 0 := rfl
theorem zc17_17 {C : zC} {a : Nat} (ha : a < 4) : ∀ (n k : Nat) (σ : zM) (d2 d3 : Option zV), k + n = 40 → (∀ i, i < k → σ.2 a 45 i = 0) → ∃ τ, zrun C zT_17 17 [some (.inr (.inr (0, 41))), some (.inl (iI a)), d2, d3, some (.inl (iI k))] [] σ = some (0, 0, τ) ∧ τ.1 = σ.1 ∧ (∀ i, i < 40 → τ.2 a 45 i = 0) ∧ ∀ g i, g ≠ a → τ.2 g 45 i = σ.2 g 45 i
  | 0, k, σ, d2, d3, hk, hs => by
    rw [ez_17_17, if_neg (by show ¬ iI k < iI 40; rw [iI_lt (by omega) (by omega)]; omega)]
    exact ⟨σ, rfl, rfl, fun i hi => hs i (by omega), fun _ _ _ => rfl⟩
  | n + 1, k, σ, d2, d3, hk, hs => by
    rw [ez_17_17, if_pos (by show iI k < iI 40; rw [iI_lt (by omega) (by omega)]; omega)]
    simp only [zgd_t (iI_ink (z := a) (k := a) rfl ha (by decide)), iI_Nn (show a ≤ 2147483647 by omega), zgd_t (iI_ink (z := k) (k := k) rfl (show k < 40 by omega) (by decide)), iI_Nn (show k ≤ 2147483647 by omega), hki1]
    obtain ⟨τ, g1, g2, g3, g4⟩ := zc17_17 (C := C) ha n (k + 1) (zwL σ a 45 k 0) none none (by omega) (fun i hi => by
      rw [zrdL]
      split
      · rfl
      · exact hs i (by omega))
    refine ⟨τ, g1, g2, g3, fun g i hg => ?_⟩
    rw [g4 g i hg, zrdL, if_neg (fun z => hg z.1)]
theorem zm250_69 {C : zC} {a : Nat} (ha : a < 4) : ∀ (n k : Nat) (σ : zM) (d2 d3 : Option zV), k + n = 40 → (∀ i, i < k → σ.1 0 75 (40 * a + i) = 0) → ∃ τ, zrun C zT_250 69 [some (.inr (.inr (0, 60))), some (.inl (iI a)), d2, d3, some (.inl (iI k))] [] σ = some (1, 0, τ) ∧ (∀ k', k' ≠ 75 → τ.1 0 k' = σ.1 0 k') ∧ (∀ i, i < 40 → τ.1 0 75 (40 * a + i) = 0) ∧ ∀ i, i < 40 * a ∨ 40 * a + 40 ≤ i → τ.1 0 75 i = σ.1 0 75 i
  | 0, k, σ, d2, d3, hk, hs => by
    rw [ez_250_69, if_neg (by show ¬ iI k < iI 40; rw [iI_lt (by omega) (by omega)]; omega)]
    exact ⟨σ, rfl, fun _ _ => rfl, fun i hi => hs i (by omega), fun _ _ => rfl⟩
  | n + 1, k, σ, d2, d3, hk, hs => by
    have i0 : (40 : Int32) * iI a + iI k = iI ((40 * a + k : Nat) : Int) := by
      show iI 40 * iI a + iI k = _
      rw [iI_mul, iI_add]; congr 1
    rw [ez_250_69, if_pos (by show iI k < iI 40; rw [iI_lt (by omega) (by omega)]; omega), i0]
    simp only [zgd_t (iI_ink (z := ((40 * a + k : Nat) : Int)) (k := 40 * a + k) rfl (show 40 * a + k < 160 by omega) (by decide)), iI_Nn (show 40 * a + k ≤ 2147483647 by omega), hki1]
    obtain ⟨τ, g1, g2, g3, g4⟩ := zm250_69 (C := C) ha n (k + 1) (zwI σ 0 75 (40 * a + k) 0) none none (by omega) (fun i hi => by
      by_cases q : i = k
      · subst q; exact zfs
      · rw [zfe (by omega)]; exact hs i (by omega))
    refine ⟨τ, g1, fun k' hk' => by rw [g2 k' hk', zfn (by omega)], g3, fun i hi => ?_⟩
    rw [g4 i hi, zfe (by omega)]
def aSh (h : zXh) (a : Nat) (s n : Int) : zXh := (fun j => if j = a then s else h.1 j, fun j => if j = a then n else h.2.1 j, fun j i => if j = a then 0 else h.2.2.1 j i, h.2.2.2)
theorem wH_sh {h : zXh} {a : Nat} {s n : Int} (w : wH h) (hs : -1 ≤ s ∧ s ≤ 4) (hn : 0 ≤ n ∧ n ≤ 40) : wH (aSh h a s n) := by
  intro j hj
  obtain ⟨w1, w2, w3, w4, w5, w6, w7, w8, w9, w10⟩ := w j hj
  show -1 ≤ (if j = a then s else h.1 j) ∧ (if j = a then s else h.1 j) ≤ 4 ∧ 0 ≤ (if j = a then n else h.2.1 j) ∧ (if j = a then n else h.2.1 j) ≤ 40 ∧ (∀ i, i < 40 → zrn (if j = a then 0 else h.2.2.1 j i)) ∧ 0 ≤ h.2.2.2.1 j ∧ h.2.2.2.1 j ≤ 2 ∧ (h.2.2.2.1 j ≠ 0 → 0 ≤ h.2.2.2.2.1 j ∧ h.2.2.2.2.1 j ≤ 40) ∧ -1 ≤ h.2.2.2.2.2 j ∧ h.2.2.2.2.2 j ≤ 4
  by_cases q : j = a
  · simp only [if_pos q]
    exact ⟨hs.1, hs.2, hn.1, hn.2, fun _ _ => by decide, w6, w7, w8, w9, w10⟩
  · simp only [if_neg q]
    exact ⟨w1, w2, w3, w4, w5, w6, w7, w8, w9, w10⟩
theorem zx_128 {x : zXx} (w : WX x) (a s n : Int) (ha : zrn a) (hs : zrn s) (hn : zrn n) : zCall 128 250 [.inl (iI a), .inl (iI s), .inl (iI n)] x := by
  have c4 : ∀ {σ : zM}, zev 63 141 [.inl (iI s), .inl (-1), .inl 4] σ = some (zB (decide (-1 ≤ s ∧ s ≤ 4)), 0, σ) := fun {σ} => by
    have := zc141 (d := 62) (z := s) (l := -1) (h := 4) (σ := σ) hs (by decide) (by decide)
    rw [← zlitm1] at this
    exact this
  have m4 : ∀ {σ : zM}, zev 63 149 [.inr (.inl (Int32.toInt64 (iI s))), .inr (.inl (-1)), .inr (.inl 4)] σ = some (zB (decide (-1 ≤ s ∧ s ≤ 4)), 0, σ) := fun {σ} => by
    rw [zm149 hs]
    rfl
  have e1 : (iI s = -1) = (s = -1) := by rw [zlitm1]; exact iI_eq hs (by decide)
  have e40 : (40 < iI n) = (40 < n) := iI_lt (a := 40) (by decide) hn
  by_cases q1 : 0 ≤ a ∧ a ≤ 3
  case neg =>
    refine zCq (-1) w (fun σ h => ?_) (fun σ h => ?_)
    · rw [ez_128]
      simp only [zc144 (d := 61) ha, zbs, zBi, decide_eq_false q1, cond_false]
      exact ⟨σ, rfl, zFr_r σ⟩
    · rw [ez_250]
      simp only [zm249 (d := 61) ha, zbs, zBi, decide_eq_false q1, cond_false]
      exact ⟨σ, rfl, zFr_r σ, h.1⟩
  case pos =>
  by_cases q2 : -1 ≤ s ∧ s ≤ 4
  case neg =>
    refine zCq (-1) w (fun σ h => ?_) (fun σ h => ?_)
    · rw [ez_128]
      simp only [zc144 (d := 61) ha, c4, zbs, zBi, decide_eq_true q1, decide_eq_false q2, cond_true, cond_false]
      exact ⟨σ, rfl, zFr_r σ⟩
    · rw [ez_250]
      simp only [zm249 (d := 61) ha, m4, zbs, zBi, decide_eq_true q1, decide_eq_false q2, cond_true, cond_false]
      exact ⟨σ, rfl, zFr_r σ, h.1⟩
  case pos =>
  obtain ⟨j, rfl⟩ := zint q1.1
  have hj : j < 4 := by omega
  have hg : ∀ {y : zR}, zgd (zin (iI j) 4) y = y := fun {y} => zgd_t (iI_ink (z := j) (k := j) rfl hj (by decide))
  have hN : Int32.toNatClampNeg (iI j) = j := iI_Nn (by omega)
  by_cases q3 : s = -1
  · subst q3
    refine ⟨xsh x (aSh (xh x) j (-1) 0), 1, ⟨w.1, w.2.1, w.2.2.1, w.2.2.2.1, wH_sh w.2.2.2.2.1 (by omega) (by omega), w.2.2.2.2.2⟩, fun σ h => ?_, fun σ h => ?_⟩
    · rw [ez_128]
      simp only [zc144 (d := 61) ha, c4, zbs, zBi, decide_eq_true q1, decide_eq_true q2, cond_true, e1, if_true, hg, hN]
      refine ⟨0, _, rfl, RC_h h (fun g k hk => zfn (by omega)) fun i hi => ?_⟩
      have hh := h.2.2.2.2.1 i hi
      show _ = iI (if i = j then -1 else (xh x).1 i) ∧ (0 ≤ (if i = j then (-1 : Int) else (xh x).1 i) → _ = iI (if i = j then 0 else (xh x).2.1 i)) ∧ (0 ≤ (if i = j then (-1 : Int) else (xh x).1 i) → ∀ i', i' < 40 → _ = lI (if i = j then 0 else (xh x).2.2.1 i i')) ∧ _
      by_cases qi : i = j
      · subst qi
        simp only [if_true]
        refine ⟨by rw [zfs]; decide, fun z => by omega, fun z => by omega, ?_⟩
        rw [zfe (by omega), zfe (by omega), zfe (by omega)]
        exact hh.2.2.2
      · simp only [if_neg qi]
        rw [zfe (by omega), zfe (by omega), zfe (by omega), zfe (by omega), zfe (by omega)]
        exact hh
    · obtain ⟨τ, g1, g2, g3, g4⟩ := zm250_69 (C := zev 63) hj 40 0 (zwI (zwI σ 0 73 j (-1)) 0 74 j 0) (some (.inl (iI (-1)))) (some (.inl (iI n))) rfl (fun i hi => absurd hi (Nat.not_lt_zero _))
      have e : zev 64 250 [.inr (.inr (0, 60)), .inl (iI j), .inl (iI (-1)), .inl (iI n)] σ = some (1, 0, τ) := by
        rw [ez_250]
        simp only [zm249 (d := 61) ha, m4, zbs, zBi, decide_eq_true q1, decide_eq_true q2, cond_true]
        rw [if_pos (by decide), ez_250_33, if_pos (by decide), ez_250_44, hg, if_pos (by decide), hg, hN]
        exact g1
      refine ⟨0, τ, e, RM_h h (fun k hk => by rw [g2 k (by omega), zfn (by omega), zfn (by omega)]) fun i hi => ?_⟩
      have hh := h.2.2.2.2.1 i hi
      rw [g2 73 (by decide), g2 74 (by decide), g2 76 (by decide), g2 77 (by decide), g2 78 (by decide)]
      show _ = iI (if i = j then -1 else (xh x).1 i) ∧ (0 ≤ (if i = j then (-1 : Int) else (xh x).1 i) → _ = iI (if i = j then 0 else (xh x).2.1 i)) ∧ (0 ≤ (if i = j then (-1 : Int) else (xh x).1 i) → ∀ i', i' < 40 → τ.1 0 75 (40 * i + i') = iI (if i = j then 0 else (xh x).2.2.1 i i')) ∧ _
      by_cases qi : i = j
      · subst qi
        simp only [if_true]
        refine ⟨by rw [zfe (by omega), zfs]; decide, fun z => by omega, fun z => by omega, ⟨0, by rw [zfs]; rfl, by omega, by omega⟩, ?_⟩
        rw [zfe (by omega), zfe (by omega), zfe (by omega), zfe (by omega), zfe (by omega), zfe (by omega)]
        exact hh.2.2.2.2
      · simp only [if_neg qi]
        rw [zfe (by omega), zfe (by omega), zfe (by omega), zfe (by omega), zfe (by omega), zfe (by omega), zfe (by omega), zfe (by omega), zfe (by omega), zfe (by omega)]
        refine ⟨hh.1, hh.2.1, fun z i' hi' => ?_, hh.2.2.2⟩
        rw [g4 _ (by omega), zfe (by omega), zfe (by omega)]
        exact hh.2.2.1 z i' hi'
  · have n0 : ¬ s < 0 := by omega
    have hcs : (iI s < 0) = (s < 0) := iI_lt0 hs
    by_cases q4 : 40 < n
    · refine zCq (-1) w (fun σ h => ?_) (fun σ h => ?_)
      · rw [ez_128]
        simp only [zc144 (d := 61) ha, c4, zbs, zBi, decide_eq_true q1, decide_eq_true q2, cond_true, e1, e40]
        rw [if_neg q3, if_pos q4]
        exact ⟨σ, rfl, zFr_r σ⟩
      · rw [ez_250]
        simp only [zm249 (d := 61) ha, m4, zbs, zBi, decide_eq_true q1, decide_eq_true q2, cond_true, hcs, e40]
        rw [if_neg n0, if_pos q4]
        exact ⟨σ, rfl, zFr_r σ, h.1⟩
    · by_cases q5 : n < 0
      · refine zCq (-14) w (fun σ h => ?_) (fun σ h => ?_)
        · rw [ez_128]
          simp only [zc144 (d := 61) ha, c4, zbs, zBi, decide_eq_true q1, decide_eq_true q2, cond_true, e1, e40, iI_lt0 hn]
          rw [if_neg q3, if_neg q4, if_pos q5]
          exact ⟨σ, rfl, zFr_r σ⟩
        · rw [ez_250]
          simp only [zm249 (d := 61) ha, m4, zbs, zBi, decide_eq_true q1, decide_eq_true q2, cond_true, hcs, e40]
          rw [if_neg n0, if_neg q4, ez_250_33, if_neg (by rw [hcs]; exact n0), if_pos (by rw [iI_lt0 hn]; exact q5)]
          exact ⟨σ, rfl, zFr_r σ, h.1⟩
      · refine ⟨xsh x (aSh (xh x) j s n), 1, ⟨w.1, w.2.1, w.2.2.1, w.2.2.2.1, wH_sh w.2.2.2.2.1 (by omega) (by omega), w.2.2.2.2.2⟩, fun σ h => ?_, fun σ h => ?_⟩
        · obtain ⟨τ, g1, g2, g3, g4⟩ := zc17_17 (C := zev 62) hj 40 0 (zwI (zwI σ 0 42 j (iI s)) 0 43 j (iI n)) (some (.inl (iI s))) (some (.inl (iI n))) rfl (fun i hi => absurd hi (Nat.not_lt_zero _))
          have e17 : zev 63 17 [.inr (.inr (0, 41)), .inl (iI j), .inl (iI s), .inl (iI n)] σ = some (0, 0, τ) := by
            rw [ez_17]
            simp only [hg, hN]
            exact g1
          have e : zev 64 128 [.inr (.inr (0, 30)), .inl (iI j), .inl (iI s), .inl (iI n)] σ = some (1, 0, τ) := by
            rw [ez_128]
            simp only [zc144 (d := 61) ha, c4, zbs, zBi, decide_eq_true q1, decide_eq_true q2, cond_true, e1, e40, iI_lt0 hn, e17]
            rw [if_neg q3, if_neg q4, if_neg q5]
          refine ⟨0, τ, e, RC_h h (fun g k hk => by rw [g2, zfn (by omega), zfn (by omega)]) fun i hi => ?_⟩
          have hh := h.2.2.2.2.1 i hi
          rw [g2]
          show _ = iI (if i = j then s else (xh x).1 i) ∧ (0 ≤ (if i = j then s else (xh x).1 i) → _ = iI (if i = j then n else (xh x).2.1 i)) ∧ (0 ≤ (if i = j then s else (xh x).1 i) → ∀ i', i' < 40 → τ.2 i 45 i' = lI (if i = j then 0 else (xh x).2.2.1 i i')) ∧ _
          by_cases qi : i = j
          · subst qi
            simp only [if_true]
            refine ⟨by rw [zfe (by omega), zfs], fun _ => by rw [zfs], fun _ i' hi' => g3 i' hi', ?_⟩
            rw [zfe (by omega), zfe (by omega), zfe (by omega), zfe (by omega), zfe (by omega), zfe (by omega)]
            exact hh.2.2.2
          · simp only [if_neg qi]
            rw [zfe (by omega), zfe (by omega), zfe (by omega), zfe (by omega), zfe (by omega), zfe (by omega), zfe (by omega), zfe (by omega), zfe (by omega), zfe (by omega)]
            refine ⟨hh.1, hh.2.1, fun z i' hi' => ?_, hh.2.2.2⟩
            rw [g4 i i' qi]
            exact hh.2.2.1 z i' hi'
        · obtain ⟨τ, g1, g2, g3, g4⟩ := zm250_69 (C := zev 63) hj 40 0 (zwI (zwI σ 0 73 j (iI s)) 0 74 j (iI n)) (some (.inl (iI s))) (some (.inl (iI n))) rfl (fun i hi => absurd hi (Nat.not_lt_zero _))
          have e : zev 64 250 [.inr (.inr (0, 60)), .inl (iI j), .inl (iI s), .inl (iI n)] σ = some (1, 0, τ) := by
            rw [ez_250]
            simp only [zm249 (d := 61) ha, m4, zbs, zBi, decide_eq_true q1, decide_eq_true q2, cond_true, hcs, e40]
            rw [if_neg n0, if_neg q4, ez_250_33, if_neg (by rw [hcs]; exact n0), if_neg (by rw [iI_lt0 hn]; exact q5), ez_250_44, hg, if_neg (by rw [hcs]; exact n0), hg, hN]
            exact g1
          refine ⟨0, τ, e, RM_h h (fun k hk => by rw [g2 k (by omega), zfn (by omega), zfn (by omega)]) fun i hi => ?_⟩
          have hh := h.2.2.2.2.1 i hi
          rw [g2 73 (by decide), g2 74 (by decide), g2 76 (by decide), g2 77 (by decide), g2 78 (by decide)]
          show _ = iI (if i = j then s else (xh x).1 i) ∧ (0 ≤ (if i = j then s else (xh x).1 i) → _ = iI (if i = j then n else (xh x).2.1 i)) ∧ (0 ≤ (if i = j then s else (xh x).1 i) → ∀ i', i' < 40 → τ.1 0 75 (40 * i + i') = iI (if i = j then 0 else (xh x).2.2.1 i i')) ∧ _
          by_cases qi : i = j
          · subst qi
            simp only [if_true]
            refine ⟨by rw [zfe (by omega), zfs], fun _ => by rw [zfs], fun _ i' hi' => by rw [g3 i' hi']; rfl, ⟨n, by rw [zfs], by omega, by omega⟩, ?_⟩
            rw [zfe (by omega), zfe (by omega), zfe (by omega), zfe (by omega), zfe (by omega), zfe (by omega)]
            exact hh.2.2.2.2
          · simp only [if_neg qi]
            rw [zfe (by omega), zfe (by omega), zfe (by omega), zfe (by omega), zfe (by omega), zfe (by omega), zfe (by omega), zfe (by omega), zfe (by omega), zfe (by omega)]
            refine ⟨hh.1, hh.2.1, fun z i' hi' => ?_, hh.2.2.2⟩
            rw [g4 _ (by omega), zfe (by omega), zfe (by omega)]
            exact hh.2.2.1 z i' hi'
