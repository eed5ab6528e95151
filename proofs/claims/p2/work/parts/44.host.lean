def aSv (h : zXh) (a : Nat) (l n s : Int) : zXh := (h.1, h.2.1, h.2.2.1, fun j => if j = a then l else h.2.2.2.1 j, fun j => if j = a then n else h.2.2.2.2.1 j, fun j => if j = a then s else h.2.2.2.2.2 j)
theorem wH_sv {h : zXh} {a : Nat} {l n s : Int} (w : wH h) (hl : 0 ≤ l ∧ l ≤ 2) (hn : 0 ≤ n ∧ n ≤ 40) (hs : -1 ≤ s ∧ s ≤ 4) : wH (aSv h a l n s) := by
  intro j hj
  obtain ⟨w1, w2, w3, w4, w5, w6, w7, w8, w9, w10⟩ := w j hj
  refine ⟨w1, w2, w3, w4, w5, ?_⟩
  show 0 ≤ (if j = a then l else h.2.2.2.1 j) ∧ (if j = a then l else h.2.2.2.1 j) ≤ 2 ∧ ((if j = a then l else h.2.2.2.1 j) ≠ 0 → 0 ≤ (if j = a then n else h.2.2.2.2.1 j) ∧ (if j = a then n else h.2.2.2.2.1 j) ≤ 40) ∧ -1 ≤ (if j = a then s else h.2.2.2.2.2 j) ∧ (if j = a then s else h.2.2.2.2.2 j) ≤ 4
  by_cases q : j = a
  · simp only [if_pos q]
    exact ⟨hl.1, hl.2, fun _ => hn, hs.1, hs.2⟩
  · simp only [if_neg q]
    exact ⟨w6, w7, w8, w9, w10⟩
theorem cHo_sv {h : zXh} {a : Nat} {l n s : Int} {σ τ : zM} (hh : cHo h σ) (e : ∀ k, k = 42 ∨ k = 43 → τ.1 0 k = σ.1 0 k) (e2 : τ.2 = σ.2) (e3 : ∀ j, j ≠ a → τ.1 0 46 j = σ.1 0 46 j ∧ τ.1 0 47 j = σ.1 0 47 j ∧ τ.1 0 48 j = σ.1 0 48 j) (h1 : τ.1 0 46 a = iI l) (h2 : l ≠ 0 → τ.1 0 47 a = iI n) (h3 : l = 2 → τ.1 0 48 a = iI s) : cHo (aSv h a l n s) τ := by
  intro j hj
  have g := hh j hj
  rw [e 42 (Or.inl rfl), e 43 (Or.inr rfl), e2]
  refine ⟨g.1, g.2.1, g.2.2.1, ?_⟩
  show τ.1 0 46 j = iI (if j = a then l else h.2.2.2.1 j) ∧ ((if j = a then l else h.2.2.2.1 j) ≠ 0 → τ.1 0 47 j = iI (if j = a then n else h.2.2.2.2.1 j)) ∧ ((if j = a then l else h.2.2.2.1 j) = 2 → τ.1 0 48 j = iI (if j = a then s else h.2.2.2.2.2 j))
  by_cases q : j = a
  · subst q
    simp only [if_true]
    exact ⟨h1, h2, h3⟩
  · simp only [if_neg q]
    rw [(e3 j q).1, (e3 j q).2.1, (e3 j q).2.2]
    exact g.2.2.2
theorem mHo_sv {h : zXh} {a : Nat} {l n s : Int} {σ τ : zM} (hh : mHo h σ) (e : ∀ k, 73 ≤ k → k ≤ 75 → τ.1 0 k = σ.1 0 k) (e3 : ∀ j, j ≠ a → τ.1 0 76 j = σ.1 0 76 j ∧ τ.1 0 77 j = σ.1 0 77 j ∧ τ.1 0 78 j = σ.1 0 78 j) (h1 : τ.1 0 76 a = iI l) (h2 : l ≠ 0 → τ.1 0 77 a = iI n) (h3 : l = 2 → τ.1 0 78 a = iI s) : mHo (aSv h a l n s) τ := by
  intro j hj
  have g := hh j hj
  rw [e 73 (by decide) (by decide), e 74 (by decide) (by decide), e 75 (by decide) (by decide)]
  refine ⟨g.1, g.2.1, g.2.2.1, g.2.2.2.1, ?_⟩
  show τ.1 0 76 j = iI (if j = a then l else h.2.2.2.1 j) ∧ ((if j = a then l else h.2.2.2.1 j) ≠ 0 → τ.1 0 77 j = iI (if j = a then n else h.2.2.2.2.1 j)) ∧ ((if j = a then l else h.2.2.2.1 j) = 2 → τ.1 0 78 j = iI (if j = a then s else h.2.2.2.2.2 j))
  by_cases q : j = a
  · subst q
    simp only [if_true]
    exact ⟨h1, h2, h3⟩
  · simp only [if_neg q]
    rw [(e3 j q).1, (e3 j q).2.1, (e3 j q).2.2]
    exact g.2.2.2.2
theorem zm256_77 {d a : Nat} {w n : Int} {σ : zM} {l : Int32} (ha : a < 4) (hw : 0 ≤ w ∧ w ≤ 2) (hn : zrn n) (hn4 : w = 1 → 0 ≤ n ∧ n < 4) : zrun (zev d) zT_256 77 [some (.inr (.inr (0, 60))), some (.inl (iI a)), some (.inl (iI w)), some (.inl (iI n))] [.inl l, .inl (iI a), .inr (.inr (0, 76))] σ = some (1, 0, zwI (zwI (zwI σ 0 76 a l) 0 77 a (if w = 0 then iI n else if w = 1 then σ.1 0 74 n.toNat else 0)) 0 78 a (if w = 1 then σ.1 0 73 n.toNat else 0)) := by
  have hg : ∀ {y : zR}, zgd (zin (iI a) 4) y = y := fun {y} => zgd_t (iI_ink (z := a) (k := a) rfl ha (by decide))
  have hN : Int32.toNatClampNeg (iI a) = a := iI_Nn (by omega)
  have n2 : ¬ (iI 2 = 0) := by decide
  have n21 : ¬ (iI 2 = 1) := by decide
  rw [ez_256_77, hg, hN]
  rcases (by omega : w = 0 ∨ w = 1 ∨ w = 2) with rfl | rfl | rfl
  · rw [if_pos (show iI 0 = 0 from rfl), ez_256_106, hg, hN, if_neg (show ¬ iI 0 = 1 by decide), hg]
    rfl
  · obtain ⟨m, rfl⟩ := zint (hn4 rfl).1
    have hm : m < 4 := by have := (hn4 rfl).2; omega
    have hg2 : ∀ {y : zR}, zgd (zin (iI m) 4) y = y := fun {y} => zgd_t (iI_ink (z := m) (k := m) rfl hm (by decide))
    have hN2 : Int32.toNatClampNeg (iI m) = m := iI_Nn (by omega)
    rw [if_neg (show ¬ iI 1 = 0 by decide), if_pos (show iI 1 = 1 from rfl), hg2, ez_256_106, hg, hN, if_pos (show iI 1 = 1 from rfl), hg2, hg, hN2, zfe (by omega), zfe (by omega), zfe (by omega), if_neg (by decide), if_pos rfl, if_pos rfl, Int.toNat_natCast]
  · rw [if_neg n2, if_neg n21, ez_256_106, hg, hN, if_neg n21, hg]
    rfl
theorem zx_132 {x : zXx} (w : WX x) (a c n : Int) (ha : zrn a) (hc : zrn c) (hn : zrn n) : zCall 132 256 [.inl (iI a), .inl (iI c), .inl (iI n)] x := by
  have wh := w.2.2.2.2.1
  have b0 := w.1.1.1
  have b1 := w.1.1.2.1
  have m2 : ∀ {σ : zM}, zev 63 149 [.inr (.inl (Int32.toInt64 (iI c))), .inr (.inl 0), .inr (.inl 2)] σ = some (zB (decide (0 ≤ c ∧ c ≤ 2)), 0, σ) := zm149k (l := 0) (h := 2) hc (by decide) (by decide)
  have c0 : (iI c = 0) = (c = 0) := iI_0 hc
  have c1 : (iI c = 1) = (c = 1) := iI_eq (b := 1) hc (by decide)
  have c2 : (iI c = 2) = (c = 2) := iI_eq (b := 2) hc (by decide)
  by_cases q1 : 0 ≤ a ∧ a ≤ 3
  case neg =>
    refine zCq (-1) w (fun σ h => ?_) (fun σ h => ?_)
    · rw [ez_132]
      simp only [zc144 (d := 61) ha, zbs, zBi, decide_eq_false q1, cond_false]
      exact ⟨σ, rfl, zFr_r σ⟩
    · rw [ez_256]
      simp only [zm249 (d := 61) ha, zbs, zBi, decide_eq_false q1, cond_false]
      exact ⟨σ, rfl, zFr_r σ, h.1⟩
  case pos =>
  obtain ⟨j, rfl⟩ := zint q1.1
  have hj : j < 4 := by omega
  have hg : ∀ {y : zR}, zgd (zin (iI j) 4) y = y := fun {y} => zgd_t (iI_ink (z := j) (k := j) rfl hj (by decide))
  have hN : Int32.toNatClampNeg (iI j) = j := iI_Nn (by omega)
  by_cases q2 : 0 ≤ c ∧ c ≤ 2
  case neg =>
    refine zCq (-1) w (fun σ h => ?_) (fun σ h => ?_)
    · rw [ez_132]
      simp only [zc144 (d := 61) ha, zbs, zBi, decide_eq_true q1, cond_true, c0, c1, c2]
      rw [if_neg (by omega), if_neg (by omega), if_neg (by omega)]
      exact ⟨σ, rfl, zFr_r σ⟩
    · rw [ez_256]
      simp only [zm249 (d := 61) ha, m2, zbs, zBi, decide_eq_true q1, cond_true, decide_eq_false q2, cond_false]
      exact ⟨σ, rfl, zFr_r σ, h.1⟩
  case pos =>
  rcases (by omega : c = 0 ∨ c = 1 ∨ c = 2) with rfl | rfl | rfl
  · by_cases q3 : 0 ≤ n ∧ n < x.1 0
    · refine ⟨xsh x (aSv (xh x) j 1 n 0), 1, ⟨w.1, w.2.1, w.2.2.1, w.2.2.2.1, wH_sv wh (by omega) (by omega) (by omega), w.2.2.2.2.2⟩, fun σ h => ?_, fun σ h => ?_⟩
      · have e20 : zev 63 20 [.inr (.inr (0, 41)), .inl (iI j), .inl (iI n)] σ = some (0, 0, zwI (zwI σ 0 46 j 1) 0 47 j (iI n)) := by
          rw [ez_20]
          simp only [hg, hN]
        rw [ez_132]
        simp only [zc144 (d := 61) ha, zbs, zBi, decide_eq_true q1, cond_true, c0, if_true, zc13 (d := 62) h.1.1.1 ⟨b0, b1⟩ hn, decide_eq_true q3, e20]
        exact ⟨0, _, rfl, RC_h h (fun g k hk => by rw [zfn (by omega), zfn (by omega)]) (cHo_sv h.2.2.2.2.1 (fun k hk => by rw [zfn (by omega), zfn (by omega)]) rfl (fun i hi => ⟨by rw [zfe (by omega), zfe (by omega)], by rw [zfe (by omega), zfe (by omega)], by rw [zfe (by omega), zfe (by omega)]⟩) (by rw [zfe (by omega), zfs]; rfl) (fun _ => by rw [zfs]) (fun z => by omega))⟩
      · rw [ez_256]
        simp only [zm249 (d := 61) ha, m2, zbs, zBi, decide_eq_true q1, cond_true, decide_eq_true q2, c0, if_true, zm150 (d := 61) h.1 ⟨b0, b1⟩ hn, decide_eq_true q3]
        rw [ez_256_31, if_neg (show ¬ iI 0 = 1 by decide), ez_256_45, if_pos (show iI 0 = 0 from rfl), zm256_77 hj q2 hn (fun z => by omega)]
        exact ⟨0, _, rfl, RM_h h (fun k hk => by rw [zfn (by omega), zfn (by omega), zfn (by omega)]) (mHo_sv h.2.2.2.2.1 (fun k a b => by rw [zfn (by omega), zfn (by omega), zfn (by omega)]) (fun i hi => ⟨by rw [zfe (by omega), zfe (by omega), zfe (by omega)], by rw [zfe (by omega), zfe (by omega), zfe (by omega)], by rw [zfe (by omega), zfe (by omega), zfe (by omega)]⟩) (by rw [zfe (by omega), zfe (by omega), zfs]; rfl) (fun _ => by rw [zfe (by omega), zfs]; rfl) (fun z => by omega))⟩
    · refine zCq (-1) w (fun σ h => ?_) (fun σ h => ?_)
      · rw [ez_132]
        simp only [zc144 (d := 61) ha, zbs, zBi, decide_eq_true q1, cond_true, c0, if_true, zc13 (d := 62) h.1.1.1 ⟨b0, b1⟩ hn, decide_eq_false q3, cond_false]
        exact ⟨σ, rfl, zFr_r σ⟩
      · rw [ez_256]
        simp only [zm249 (d := 61) ha, m2, zbs, zBi, decide_eq_true q1, cond_true, decide_eq_true q2, c0, if_true, zm150 (d := 61) h.1 ⟨b0, b1⟩ hn, decide_eq_false q3, cond_false]
        exact ⟨σ, rfl, zFr_r σ, h.1⟩
  · by_cases q3 : 0 ≤ n ∧ n ≤ 3
    · obtain ⟨m, rfl⟩ := zint q3.1
      have hm : m < 4 := by omega
      have hg2 : ∀ {y : zR}, zgd (zin (iI m) 4) y = y := fun {y} => zgd_t (iI_ink (z := m) (k := m) rfl hm (by decide))
      have hN2 : Int32.toNatClampNeg (iI m) = m := iI_Nn (by omega)
      have u := wh m hm
      have e1 : (iI ((xh x).1 m) = -1) = ((xh x).1 m = -1) := by rw [zlitm1]; exact iI_eq (by omega) (by decide)
      refine ⟨xsh x (aSv (xh x) j (if (xh x).1 m = -1 then 0 else 2) ((xh x).2.1 m) ((xh x).1 m)), 1, ⟨w.1, w.2.1, w.2.2.1, w.2.2.2.1, wH_sv wh (by split <;> omega) ⟨u.2.2.1, u.2.2.2.1⟩ ⟨u.1, u.2.1⟩, w.2.2.2.2.2⟩, fun σ h => ?_, fun σ h => ?_⟩
      · have gm := h.2.2.2.2.1 m hm
        have e21 : zev 63 21 [.inr (.inr (0, 41)), .inl (iI j), .inl (iI m)] σ = some (0, 0, zwI (zwI (zwI σ 0 46 j (iI (if (xh x).1 m = -1 then 0 else 2))) 0 47 j (σ.1 0 43 m)) 0 48 j (σ.1 0 42 m)) := by
          rw [ez_21]
          simp only [hg2, hN2, gm.1, e1]
          by_cases q : (xh x).1 m = -1
          · rw [if_pos q, if_pos q, ez_21_20, hg, hg2, hg, hg2, hg, hN, hN2, zfe (by omega), zfe (by omega), zfe (by omega)]
            rw [gm.1]; rfl
          · rw [if_neg q, if_neg q, ez_21_20, hg, hg2, hg, hg2, hg, hN, hN2, zfe (by omega), zfe (by omega), zfe (by omega)]
            rw [gm.1]; rfl
        rw [ez_132]
        simp only [zc144 (d := 61) ha, zbs, zBi, decide_eq_true q1, cond_true, c0, c1, zc144 (d := 61) hn, decide_eq_true q3, e21]
        rw [if_neg (by decide), if_pos trivial]
        refine ⟨0, _, rfl, RC_h h (fun g k hk => by rw [zfn (by omega), zfn (by omega), zfn (by omega)]) (cHo_sv h.2.2.2.2.1 (fun k hk => by rw [zfn (by omega), zfn (by omega), zfn (by omega)]) rfl (fun i hi => ⟨by rw [zfe (by omega), zfe (by omega), zfe (by omega)], by rw [zfe (by omega), zfe (by omega), zfe (by omega)], by rw [zfe (by omega), zfe (by omega), zfe (by omega)]⟩) (by rw [zfe (by omega), zfe (by omega), zfs]) (fun z => ?_) (fun z => by rw [zfs]; exact gm.1))⟩
        rw [zfe (by omega), zfs]
        refine gm.2.1 ?_
        by_cases q : (xh x).1 m = -1
        · rw [if_pos q] at z; exact absurd rfl z
        · omega
      · have gm := h.2.2.2.2.1 m hm
        have t : zrun (zev 63) zT_256 45 [some (.inr (.inr (0, 60))), some (.inl (iI j)), some (.inl (iI 1)), some (.inl (iI m))] [] σ = zrun (zev 63) zT_256 77 [some (.inr (.inr (0, 60))), some (.inl (iI j)), some (.inl (iI 1)), some (.inl (iI m))] [.inl (iI (if (xh x).1 m = -1 then 0 else 2)), .inl (iI j), .inr (.inr (0, 76))] σ := by
          rw [ez_256_45, if_neg (show ¬ iI 1 = 0 by decide), if_pos (show iI 1 = 1 from rfl), hg2, hN2, gm.1]
          simp only [iI_lt0 (show zrn ((xh x).1 m) by omega)]
          by_cases q : (xh x).1 m = -1
          · rw [if_pos (by omega), if_pos q, ez_256_76]; rfl
          · rw [if_neg (by omega), if_neg q]; rfl
        rw [ez_256]
        simp only [zm249 (d := 61) ha, m2, zbs, zBi, decide_eq_true q1, cond_true, decide_eq_true q2, c0]
        rw [if_neg (by decide), ez_256_31, if_pos (show iI 1 = 1 from rfl), zm249 (d := 61) hn, decide_eq_true q3]
        simp only [zbs, zBi, cond_true]
        rw [t, zm256_77 hj q2 hn (fun _ => by omega)]
        refine ⟨0, _, rfl, RM_h h (fun k hk => by rw [zfn (by omega), zfn (by omega), zfn (by omega)]) (mHo_sv h.2.2.2.2.1 (fun k a b => by rw [zfn (by omega), zfn (by omega), zfn (by omega)]) (fun i hi => ⟨by rw [zfe (by omega), zfe (by omega), zfe (by omega)], by rw [zfe (by omega), zfe (by omega), zfe (by omega)], by rw [zfe (by omega), zfe (by omega), zfe (by omega)]⟩) (by rw [zfe (by omega), zfe (by omega), zfs]) (fun z => ?_) (fun z => by rw [zfs, if_pos rfl, Int.toNat_natCast]; exact gm.1))⟩
        rw [zfe (by omega), zfs, if_neg (by decide), if_pos rfl, Int.toNat_natCast]
        refine gm.2.1 ?_
        by_cases q : (xh x).1 m = -1
        · rw [if_pos q] at z; exact absurd rfl z
        · omega
    · refine zCq (-1) w (fun σ h => ?_) (fun σ h => ?_)
      · rw [ez_132]
        simp only [zc144 (d := 61) ha, zbs, zBi, decide_eq_true q1, cond_true, c0, c1, zc144 (d := 61) hn, decide_eq_false q3, cond_false]
        rw [if_neg (by decide), if_pos trivial]
        exact ⟨σ, rfl, zFr_r σ⟩
      · rw [ez_256]
        simp only [zm249 (d := 61) ha, m2, zbs, zBi, decide_eq_true q1, cond_true, decide_eq_true q2, c0]
        rw [if_neg (by decide), ez_256_31, if_pos (show iI 1 = 1 from rfl), zm249 (d := 61) hn, decide_eq_false q3]
        exact ⟨σ, rfl, zFr_r σ, h.1⟩
  · refine ⟨xsh x (aSv (xh x) j 0 0 0), 1, ⟨w.1, w.2.1, w.2.2.1, w.2.2.2.1, wH_sv wh (by omega) (by omega) (by omega), w.2.2.2.2.2⟩, fun σ h => ?_, fun σ h => ?_⟩
    · have e22 : zev 63 22 [.inr (.inr (0, 41)), .inl (iI j)] σ = some (0, 0, zwI σ 0 46 j 0) := by
        rw [ez_22]
        simp only [hg, hN]
      rw [ez_132]
      simp only [zc144 (d := 61) ha, zbs, zBi, decide_eq_true q1, cond_true, c0, c1, c2, e22]
      rw [if_neg (by decide), if_neg (by decide), if_pos trivial]
      exact ⟨0, _, rfl, RC_h h (fun g k hk => zfn (by omega)) (cHo_sv h.2.2.2.2.1 (fun k hk => zfn (by omega)) rfl (fun i hi => ⟨zfe (by omega), zfe (by omega), zfe (by omega)⟩) (by rw [zfs]; rfl) (fun z => absurd rfl z) (fun z => by omega))⟩
    · rw [ez_256]
      simp only [zm249 (d := 61) ha, m2, zbs, zBi, decide_eq_true q1, cond_true, decide_eq_true q2, c0]
      rw [if_neg (by decide), ez_256_31, if_neg (show ¬ iI 2 = 1 by decide), ez_256_45, if_neg (show ¬ iI 2 = 0 by decide), if_neg (show ¬ iI 2 = 1 by decide), ez_256_76, zm256_77 hj q2 hn (fun z => by omega)]
      exact ⟨0, _, rfl, RM_h h (fun k hk => by rw [zfn (by omega), zfn (by omega), zfn (by omega)]) (mHo_sv h.2.2.2.2.1 (fun k a b => by rw [zfn (by omega), zfn (by omega), zfn (by omega)]) (fun i hi => ⟨by rw [zfe (by omega), zfe (by omega), zfe (by omega)], by rw [zfe (by omega), zfe (by omega), zfe (by omega)], by rw [zfe (by omega), zfe (by omega), zfe (by omega)]⟩) (by rw [zfe (by omega), zfe (by omega), zfs]; rfl) (fun z => absurd rfl z) (fun z => by omega))⟩
def aOn (x : zXx) (j : Nat) : Int := if (xh x).2.2.2.1 j = 1 ∧ (xh x).2.2.2.2.1 j < x.1 0 then (xh x).2.2.2.2.1 j else -1
theorem aOn_r {x : zXx} (w : WX x) {j : Nat} (hj : j < 4) : -1 ≤ aOn x j ∧ aOn x j < x.1 0 := by
  have u := w.2.2.2.2.1 j hj
  have b0 := w.1.1.1
  unfold aOn
  split
  · have := u.2.2.2.2.2.2.2.1 (by omega)
    omega
  · omega
theorem zc137 {d j : Nat} {x : zXx} {σ : zM} (w : WX x) (h : RC x σ) (hj : j < 4) : zev (d + 2) 137 [.inr (.inr (0, 30)), .inl (iI j)] σ = some (iI (cE (aOn x j)), 0, σ) := by
  have u := w.2.2.2.2.1 j hj
  have g := h.2.2.2.2.1 j hj
  have hg : ∀ {y : zR}, zgd (zin (iI j) 4) y = y := fun {y} => zgd_t (iI_ink (z := j) (k := j) rfl hj (by decide))
  have hN : Int32.toNatClampNeg (iI j) = j := iI_Nn (by omega)
  have e1 : (iI ((xh x).2.2.2.1 j) = 1) = ((xh x).2.2.2.1 j = 1) := iI_eq (b := 1) (by omega) (by decide)
  have e23 : zev (d + 1) 23 [.inr (.inr (0, 41)), .inl (iI j)] σ = some (zB (decide ((xh x).2.2.2.1 j = 1)), 0, σ) := by
    rw [ez_23]
    simp only [hg, hN, g.2.2.2.1, e1]
    exact zB_d
  rw [ez_137]
  simp only [e23, zbs, zBi, if_true, hg, hN]
  unfold aOn
  by_cases q : (xh x).2.2.2.1 j = 1
  · have hn := u.2.2.2.2.2.2.2.1 (by omega)
    rw [decide_eq_true q, cond_true, g.2.2.2.2.1 (by omega), zc13 (d := d) h.1.1.1 ⟨w.1.1.1, w.1.1.2.1⟩ (by omega)]
    simp only [zbs, zBi]
    by_cases q2 : (xh x).2.2.2.2.1 j < x.1 0
    · rw [decide_eq_true (by omega), cond_true, if_neg (by decide), if_pos ⟨q, q2⟩, show cE ((xh x).2.2.2.2.1 j) = (xh x).2.2.2.2.1 j from if_neg (by omega)]
      rw [g.2.2.2.2.1 (by omega)]
    · rw [decide_eq_false (by omega), cond_false, if_neg (fun z => q2 z.2)]
      rfl
  · rw [decide_eq_false q, cond_false, if_neg (fun z => q z.1)]
    rfl
theorem zm257 {d : Nat} {a : Int} {x : zXx} {σ : zM} (w : WX x) (hS : mS 61 x.1 σ) (hH : mHo (xh x) σ) (ha : zrn a) : zev (d + 3) 257 [.inr (.inr (0, 60)), .inl (iI a)] σ = some (iI (if 0 ≤ a ∧ a ≤ 3 then aOn x a.toNat else -1), 0, σ) := by
  rw [ez_257]
  simp only [zm249 (d := d) ha, zbs, zBi]
  by_cases q0 : 0 ≤ a ∧ a ≤ 3
  case neg => rw [decide_eq_false q0, if_neg q0]; rfl
  case pos =>
  obtain ⟨j, rfl⟩ := zint q0.1
  have hj : j < 4 := by omega
  have u := w.2.2.2.2.1 j hj
  have g := hH j hj
  have hg : ∀ {y : zR}, zgd (zin (iI j) 4) y = y := fun {y} => zgd_t (iI_ink (z := j) (k := j) rfl hj (by decide))
  have hN : Int32.toNatClampNeg (iI j) = j := iI_Nn (by omega)
  have e1 : (iI ((xh x).2.2.2.1 j) = 1) = ((xh x).2.2.2.1 j = 1) := iI_eq (b := 1) (by omega) (by decide)
  rw [decide_eq_true q0, cond_true, if_pos q0, hg, hN, g.2.2.2.2.1, Int.toNat_natCast]
  simp only [e1]
  unfold aOn
  by_cases q : (xh x).2.2.2.1 j = 1
  · have hn := u.2.2.2.2.2.2.2.1 (by omega)
    rw [if_pos q, hg, g.2.2.2.2.2.1 (by omega), zm150 (d := d) hS ⟨w.1.1.1, w.1.1.2.1⟩ (by omega)]
    simp only [zbs, zBi]
    by_cases q2 : (xh x).2.2.2.2.1 j < x.1 0
    · rw [decide_eq_true (by omega), cond_true, hg, if_pos ⟨q, q2⟩, g.2.2.2.2.2.1 (by omega)]
    · rw [decide_eq_false (by omega), cond_false, if_neg (fun z => q2 z.2)]
      rfl
  · rw [if_neg q, if_neg (fun z => q z.1)]
    rfl
