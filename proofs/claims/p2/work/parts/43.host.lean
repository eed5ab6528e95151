def aNr (s v : Int) : Int := if s = 0 then (Int32.toInt8 (iI v)).toInt32.toInt else if s = 1 then (Int32.toInt16 (iI v)).toInt32.toInt else if s = 4 then (if v = 0 then 0 else 1) else v
theorem aNr_r {s v : Int} (hv : zrn v) : zrn (aNr s v) := by
  unfold aNr
  split
  · exact t_rn _
  · split
    · exact t_rn _
    · split
      · split <;> decide
      · exact hv
theorem lI_t (x : Int32) : lI x.toInt = Int32.toInt64 x := Int64.ofInt_int32ToInt x
theorem lI_i {z : Int} (hz : zrn z) : Int32.toInt64 (iI z) = lI z := by rw [← lI_t, t_iI hz]
theorem lI_32 (z : Int) : Int64.toInt32 (lI z) = iI z := Int64.toInt32_ofInt
theorem zc138 {d : Nat} {s v : Int} {σ : zM} (hs : 0 ≤ s ∧ s ≤ 4) (hv : zrn v) : zev (d + 1) 138 [.inl (iI s), .inl (iI v)] σ = some (0, lI (aNr s v), σ) := by
  have e0 : (iI v = 0) = (v = 0) := iI_0 hv
  rw [ez_138]
  unfold aNr
  rcases (by omega : s = 0 ∨ s = 1 ∨ s = 2 ∨ s = 3 ∨ s = 4) with rfl | rfl | rfl | rfl | rfl
  · show (some (0, _, σ) : zR) = some (0, lI _, σ)
    rw [if_pos rfl, lI_t]
  · show (some (0, _, σ) : zR) = some (0, lI _, σ)
    rw [if_neg (by decide), if_pos rfl, lI_t]
  · show (some (0, Int32.toInt64 (iI v), σ) : zR) = some (0, lI _, σ)
    rw [if_neg (by decide), if_neg (by decide), if_neg (by decide), lI_i hv]
  · show (some (0, Int32.toInt64 (iI v), σ) : zR) = some (0, lI _, σ)
    rw [if_neg (by decide), if_neg (by decide), if_neg (by decide), lI_i hv]
  · show (if iI v = 0 then some (0, 0, σ) else some (0, 1, σ)) = some (0, lI _, σ)
    rw [if_neg (show ¬ (4 : Int) = 0 by decide), if_neg (show ¬ (4 : Int) = 1 by decide), if_pos (show (4 : Int) = 4 from rfl)]
    simp only [e0]
    by_cases q : v = 0
    · rw [if_pos q, if_pos q]; rfl
    · rw [if_neg q, if_neg q]; rfl
theorem zm251 {d : Nat} {s v : Int} {σ : zM} (hs : 0 ≤ s ∧ s ≤ 4) (hv : zrn v) : zev (d + 1) 251 [.inl (iI s), .inl (iI v)] σ = some (iI (aNr s v), 0, σ) := by
  have e0 : (iI v = 0) = (v = 0) := iI_0 hv
  rw [ez_251]
  unfold aNr
  rcases (by omega : s = 0 ∨ s = 1 ∨ s = 2 ∨ s = 3 ∨ s = 4) with rfl | rfl | rfl | rfl | rfl
  · show (some ((Int32.toInt8 (iI v)).toInt32, 0, σ) : zR) = _
    rw [if_pos rfl, iI_t]
  · show (some ((Int32.toInt16 (iI v)).toInt32, 0, σ) : zR) = _
    rw [if_neg (by decide), if_pos rfl, iI_t]
  · show (some (iI v, 0, σ) : zR) = _
    rw [if_neg (by decide), if_neg (by decide), if_neg (by decide)]
  · show (some (iI v, 0, σ) : zR) = _
    rw [if_neg (by decide), if_neg (by decide), if_neg (by decide)]
  · show (if iI v = 0 then some (0, 0, σ) else some (1, 0, σ)) = _
    rw [if_neg (show ¬ (4 : Int) = 0 by decide), if_neg (show ¬ (4 : Int) = 1 by decide), if_pos (show (4 : Int) = 4 from rfl)]
    simp only [e0]
    by_cases q : v = 0
    · rw [if_pos q, if_pos q]; rfl
    · rw [if_neg q, if_neg q]; rfl
theorem zc19 {d j : Nat} {i : Int} {h : zXh} {σ : zM} (hh : cHo h σ) (w : wH h) (hj : j < 4) (h0 : 0 ≤ h.1 j) (hi : zrn i) : zev (d + 1) 19 [.inr (.inr (0, 41)), .inl (iI j), .inl (iI i)] σ = some (zB (decide (0 ≤ i ∧ i < h.2.1 j)), 0, σ) := by
  have w1 := w j hj
  rw [ez_19]
  simp only [iI_lt0 hi, zgd_t (iI_ink (z := j) (k := j) rfl hj (by decide)), iI_Nn (show j ≤ 2147483647 by omega), (hh j hj).2.1 h0, iI_lt hi (show zrn (h.2.1 j) by omega), zg30, zg31]
  by_cases q : i < 0
  · rw [if_pos q, decide_eq_false (by omega)]; rfl
  · by_cases q2 : i < h.2.1 j
    · rw [if_neg q, if_pos q2, decide_eq_true (by omega)]; rfl
    · rw [if_neg q, if_neg q2, decide_eq_false (by omega)]; rfl
theorem zc18 {d j : Nat} {s : Int} {h : zXh} {σ : zM} (hh : cHo h σ) (w : wH h) (hj : j < 4) (hs : zrn s) : zev (d + 1) 18 [.inr (.inr (0, 41)), .inl (iI j), .inl (iI s)] σ = some (if h.1 j = -1 then -11 else if h.1 j = s then 0 else -13, 0, σ) := by
  have w1 := w j hj
  have e1 : (iI (h.1 j) = -1) = (h.1 j = -1) := by rw [zlitm1]; exact iI_eq (by omega) (by decide)
  rw [ez_18]
  simp only [zgd_t (iI_ink (z := j) (k := j) rfl hj (by decide)), iI_Nn (show j ≤ 2147483647 by omega), (hh j hj).1, e1, iI_eq (show zrn (h.1 j) by omega) hs]
  by_cases q : h.1 j = -1
  · rw [if_pos q, if_pos q]
  · rw [if_neg q, if_neg q]
    by_cases q2 : h.1 j = s
    · rw [if_pos q2, if_pos q2]
    · rw [if_neg q2, if_neg q2]
theorem zm253 {d j : Nat} {s : Int} {h : zXh} {σ : zM} (hh : mHo h σ) (w : wH h) (hj : j < 4) (hs : zrn s) : zev (d + 1) 253 [.inr (.inr (0, 60)), .inl (iI j), .inl (iI s)] σ = some (if h.1 j = -1 then -11 else if h.1 j = s then 0 else -13, 0, σ) := by
  have w1 := w j hj
  rw [ez_253]
  simp only [zgd_t (iI_ink (z := j) (k := j) rfl hj (by decide)), iI_Nn (show j ≤ 2147483647 by omega), (hh j hj).1, iI_lt0 (show zrn (h.1 j) by omega), iI_eq (show zrn (h.1 j) by omega) hs]
  by_cases q : h.1 j = -1
  · rw [if_pos (by omega), if_pos q]
  · rw [if_neg (by omega), if_neg q]
    by_cases q2 : h.1 j = s
    · rw [if_pos q2, if_pos q2]
    · rw [if_neg q2, if_neg q2]
theorem zm149h {d j : Nat} {i : Int} {h : zXh} {σ : zM} (hh : mHo h σ) (w : wH h) (hj : j < 4) (h0 : 0 ≤ h.1 j) (hi : zrn i) : zev (d + 1) 149 [.inr (.inl (Int32.toInt64 (iI i))), .inr (.inl 0), .inr (.inl (Int32.toInt64 (σ.1 0 74 j - 1)))] σ = some (zB (decide (0 ≤ i ∧ i < h.2.1 j)), 0, σ) := by
  have w1 := w j hj
  rw [(hh j hj).2.1 h0, iI_s1, zm149 hi, zt64 (by omega)]
  rw [zdec (show ((0 : Int64).toInt ≤ i ∧ i ≤ h.2.1 j - 1) ↔ (0 ≤ i ∧ i < h.2.1 j) by rw [show (0 : Int64).toInt = 0 by decide]; omega)]
def aWr (h : zXh) (a b : Nat) (v : Int) : zXh := (h.1, h.2.1, fun j i => if j = a ∧ i = b then v else h.2.2.1 j i, h.2.2.2)
theorem zx_129 {x : zXx} (w : WX x) (a i v : Int) (ha : zrn a) (hi : zrn i) (hv : zrn v) : zCall 129 252 [.inl (iI a), .inl (iI i), .inl (iI v)] x := by
  have wh := w.2.2.2.2.1
  by_cases q1 : 0 ≤ a ∧ a ≤ 3
  case neg =>
    refine zCq (-1) w (fun σ h => ?_) (fun σ h => ?_)
    · rw [ez_129]
      simp only [zc144 (d := 61) ha, zbs, zBi, decide_eq_false q1, cond_false]
      exact ⟨σ, rfl, zFr_r σ⟩
    · rw [ez_252]
      simp only [zm249 (d := 61) ha, zbs, zBi, decide_eq_false q1, cond_false]
      exact ⟨σ, rfl, zFr_r σ, h.1⟩
  case pos =>
  obtain ⟨j, rfl⟩ := zint q1.1
  have hj : j < 4 := by omega
  have w1 := wh j hj
  have hg : ∀ {y : zR}, zgd (zin (iI j) 4) y = y := fun {y} => zgd_t (iI_ink (z := j) (k := j) rfl hj (by decide))
  have hN : Int32.toNatClampNeg (iI j) = j := iI_Nn (by omega)
  have e1 : (iI ((xh x).1 j) = -1) = ((xh x).1 j = -1) := by rw [zlitm1]; exact iI_eq (by omega) (by decide)
  by_cases q2 : (xh x).1 j = -1
  · refine zCq (-11) w (fun σ h => ?_) (fun σ h => ?_)
    · rw [ez_129]
      simp only [zc144 (d := 61) ha, zbs, zBi, decide_eq_true q1, cond_true, hg, hN, (h.2.2.2.2.1 j hj).1, e1]
      rw [if_pos q2]
      exact ⟨σ, rfl, zFr_r σ⟩
    · rw [ez_252]
      simp only [zm249 (d := 61) ha, zbs, zBi, decide_eq_true q1, cond_true, hg, hN, (h.2.2.2.2.1 j hj).1, iI_lt0 (show zrn ((xh x).1 j) by omega)]
      rw [if_pos (by omega)]
      exact ⟨σ, rfl, zFr_r σ, h.1⟩
  · have h0 : 0 ≤ (xh x).1 j := by omega
    by_cases q3 : 0 ≤ i ∧ i < (xh x).2.1 j
    · obtain ⟨k, rfl⟩ := zint q3.1
      have hk : k < 40 := by omega
      refine ⟨xsh x (aWr (xh x) j k (aNr ((xh x).1 j) v)), 1, ⟨w.1, w.2.1, w.2.2.1, w.2.2.2.1, fun m hm => ?_, w.2.2.2.2.2⟩, fun σ h => ?_, fun σ h => ?_⟩
      · obtain ⟨u1, u2, u3, u4, u5, u6⟩ := wh m hm
        refine ⟨u1, u2, u3, u4, fun i' hi' => ?_, u6⟩
        show zrn (if m = j ∧ i' = k then aNr ((xh x).1 j) v else (xh x).2.2.1 m i')
        split
        · exact aNr_r hv
        · exact u5 i' hi'
      · rw [ez_129]
        simp only [zc144 (d := 61) ha, zbs, zBi, decide_eq_true q1, cond_true, hg, hN, (h.2.2.2.2.1 j hj).1, e1, zc19 (d := 62) h.2.2.2.2.1 wh hj h0 hi, decide_eq_true q3, zc138 (d := 62) (show 0 ≤ (xh x).1 j ∧ (xh x).1 j ≤ 4 by omega) hv, zgd_t (iI_ink (z := k) (k := k) rfl hk (by decide)), iI_Nn (show k ≤ 2147483647 by omega)]
        rw [if_neg q2]
        refine ⟨0, _, rfl, RC_h h (fun _ _ _ => rfl) fun m hm => ?_⟩
        have hh := h.2.2.2.2.1 m hm
        refine ⟨hh.1, hh.2.1, fun z i' hi' => ?_, hh.2.2.2⟩
        show _ = lI (if m = j ∧ i' = k then aNr ((xh x).1 j) v else (xh x).2.2.1 m i')
        rw [zrdL]
        by_cases qm : m = j ∧ i' = k
        · rw [if_pos ⟨qm.1, rfl, qm.2⟩, if_pos qm]
        · rw [if_neg (fun z => qm ⟨z.1, z.2.2⟩), if_neg qm]
          exact hh.2.2.1 z i' hi'
      · have i0 : (40 : Int32) * iI j + iI k = iI ((40 * j + k : Nat) : Int) := by
          show iI 40 * iI j + iI k = _
          rw [iI_mul, iI_add]; congr 1
        rw [ez_252]
        simp only [zm249 (d := 61) ha, zbs, zBi, decide_eq_true q1, cond_true, hg, hN, (h.2.2.2.2.1 j hj).1, iI_lt0 (show zrn ((xh x).1 j) by omega), zm149h (d := 62) h.2.2.2.2.1 wh hj h0 hi, decide_eq_true q3, zm251 (d := 62) (show 0 ≤ (xh x).1 j ∧ (xh x).1 j ≤ 4 by omega) hv, i0, zgd_t (iI_ink (z := ((40 * j + k : Nat) : Int)) (k := 40 * j + k) rfl (show 40 * j + k < 160 by omega) (by decide)), iI_Nn (show 40 * j + k ≤ 2147483647 by omega)]
        rw [if_neg (by omega)]
        refine ⟨0, _, rfl, RM_h h (fun k' hk' => zfn (by omega)) fun m hm => ?_⟩
        have hh := h.2.2.2.2.1 m hm
        rw [zfe (by omega), zfe (by omega), zfe (by omega), zfe (by omega), zfe (by omega)]
        refine ⟨hh.1, hh.2.1, fun z i' hi' => ?_, hh.2.2.2⟩
        show _ = iI (if m = j ∧ i' = k then aNr ((xh x).1 j) v else (xh x).2.2.1 m i')
        by_cases qm : m = j ∧ i' = k
        · rw [if_pos qm, qm.1, qm.2, zfs]
        · rw [zfe (by omega), if_neg qm]
          exact hh.2.2.1 z i' hi'
    · refine zCq (-12) w (fun σ h => ?_) (fun σ h => ?_)
      · rw [ez_129]
        simp only [zc144 (d := 61) ha, zbs, zBi, decide_eq_true q1, cond_true, hg, hN, (h.2.2.2.2.1 j hj).1, e1, zc19 (d := 62) h.2.2.2.2.1 wh hj h0 hi, decide_eq_false q3, cond_false]
        rw [if_neg q2]
        exact ⟨σ, rfl, zFr_r σ⟩
      · rw [ez_252]
        simp only [zm249 (d := 61) ha, zbs, zBi, decide_eq_true q1, cond_true, hg, hN, (h.2.2.2.2.1 j hj).1, iI_lt0 (show zrn ((xh x).1 j) by omega), zm149h (d := 62) h.2.2.2.2.1 wh hj h0 hi, decide_eq_false q3, cond_false]
        rw [if_neg (by omega)]
        exact ⟨σ, rfl, zFr_r σ, h.1⟩
theorem zx_130 {x : zXx} (w : WX x) (a s i : Int) (ha : zrn a) (hs : zrn s) (hi : zrn i) : zCall 130 254 [.inl (iI a), .inl (iI s), .inl (iI i)] x := by
  have wh := w.2.2.2.2.1
  have c4 : ∀ {σ : zM}, zev 63 141 [.inl (iI s), .inl 0, .inl 4] σ = some (zB (decide (0 ≤ s ∧ s ≤ 4)), 0, σ) := zc141 (l := 0) (h := 4) hs (by decide) (by decide)
  have m4 : ∀ {σ : zM}, zev 63 149 [.inr (.inl (Int32.toInt64 (iI s))), .inr (.inl 0), .inr (.inl 4)] σ = some (zB (decide (0 ≤ s ∧ s ≤ 4)), 0, σ) := zm149k (l := 0) (h := 4) hs (by decide) (by decide)
  by_cases q1 : 0 ≤ a ∧ a ≤ 3
  case neg =>
    refine zCq (-1) w (fun σ h => ?_) (fun σ h => ?_)
    · rw [ez_130]
      simp only [zc144 (d := 61) ha, zbs, zBi, decide_eq_false q1, cond_false]
      exact ⟨σ, rfl, zFr_r σ⟩
    · rw [ez_254]
      simp only [zm249 (d := 61) ha, zbs, zBi, decide_eq_false q1, cond_false]
      exact ⟨σ, rfl, zFr_r σ, h.1⟩
  case pos =>
  by_cases q2 : 0 ≤ s ∧ s ≤ 4
  case neg =>
    refine zCq (-1) w (fun σ h => ?_) (fun σ h => ?_)
    · rw [ez_130]
      simp only [zc144 (d := 61) ha, c4, zbs, zBi, decide_eq_true q1, decide_eq_false q2, cond_true, cond_false]
      exact ⟨σ, rfl, zFr_r σ⟩
    · rw [ez_254]
      simp only [zm249 (d := 61) ha, m4, zbs, zBi, decide_eq_true q1, decide_eq_false q2, cond_true, cond_false]
      exact ⟨σ, rfl, zFr_r σ, h.1⟩
  case pos =>
  obtain ⟨j, rfl⟩ := zint q1.1
  have hj : j < 4 := by omega
  have w1 := wh j hj
  have hg : ∀ {y : zR}, zgd (zin (iI j) 4) y = y := fun {y} => zgd_t (iI_ink (z := j) (k := j) rfl hj (by decide))
  have hN : Int32.toNatClampNeg (iI j) = j := iI_Nn (by omega)
  by_cases q3 : (xh x).1 j = -1
  · refine zCq (-11) w (fun σ h => ?_) (fun σ h => ?_)
    · rw [ez_130]
      simp only [zc144 (d := 61) ha, c4, zbs, zBi, decide_eq_true q1, decide_eq_true q2, cond_true, zc18 (d := 62) h.2.2.2.2.1 wh hj hs, if_pos q3]
      exact ⟨σ, rfl, zFr_r σ⟩
    · rw [ez_254]
      simp only [zm249 (d := 61) ha, m4, zbs, zBi, decide_eq_true q1, decide_eq_true q2, cond_true, zm253 (d := 62) h.2.2.2.2.1 wh hj hs, if_pos q3]
      exact ⟨σ, rfl, zFr_r σ, h.1⟩
  · have h0 : 0 ≤ (xh x).1 j := by omega
    by_cases q4 : (xh x).1 j = s
    · have r0 : ∀ {y y' : zR}, (if (if (xh x).1 j = -1 then (-11 : Int32) else if (xh x).1 j = s then 0 else -13) = 0 then y else y') = y := fun {y y'} => by
        rw [if_neg q3, if_pos q4]; rfl
      by_cases q5 : 0 ≤ i ∧ i < (xh x).2.1 j
      · obtain ⟨k, rfl⟩ := zint q5.1
        have hk : k < 40 := by omega
        refine zCq (iI ((xh x).2.2.1 j k)) w (fun σ h => ?_) (fun σ h => ?_)
        · rw [ez_130]
          simp only [zc144 (d := 61) ha, c4, zbs, zBi, decide_eq_true q1, decide_eq_true q2, cond_true, zc18 (d := 62) h.2.2.2.2.1 wh hj hs, r0, zc19 (d := 62) h.2.2.2.2.1 wh hj h0 hi, decide_eq_true q5, hg, hN, zgd_t (iI_ink (z := k) (k := k) rfl hk (by decide)), iI_Nn (show k ≤ 2147483647 by omega), (h.2.2.2.2.1 j hj).2.2.1 h0 k hk, lI_32]
          exact ⟨σ, rfl, zFr_r σ⟩
        · have i0 : (40 : Int32) * iI j + iI k = iI ((40 * j + k : Nat) : Int) := by
            show iI 40 * iI j + iI k = _
            rw [iI_mul, iI_add]; congr 1
          rw [ez_254]
          simp only [zm249 (d := 61) ha, m4, zbs, zBi, decide_eq_true q1, decide_eq_true q2, cond_true, zm253 (d := 62) h.2.2.2.2.1 wh hj hs, r0, hg, hN, zm149h (d := 62) h.2.2.2.2.1 wh hj h0 hi, decide_eq_true q5, i0, zgd_t (iI_ink (z := ((40 * j + k : Nat) : Int)) (k := 40 * j + k) rfl (show 40 * j + k < 160 by omega) (by decide)), iI_Nn (show 40 * j + k ≤ 2147483647 by omega), (h.2.2.2.2.1 j hj).2.2.1 h0 k hk]
          exact ⟨σ, rfl, zFr_r σ, h.1⟩
      · refine zCq (-12) w (fun σ h => ?_) (fun σ h => ?_)
        · rw [ez_130]
          simp only [zc144 (d := 61) ha, c4, zbs, zBi, decide_eq_true q1, decide_eq_true q2, cond_true, zc18 (d := 62) h.2.2.2.2.1 wh hj hs, r0, zc19 (d := 62) h.2.2.2.2.1 wh hj h0 hi, decide_eq_false q5, cond_false]
          exact ⟨σ, rfl, zFr_r σ⟩
        · rw [ez_254]
          simp only [zm249 (d := 61) ha, m4, zbs, zBi, decide_eq_true q1, decide_eq_true q2, cond_true, zm253 (d := 62) h.2.2.2.2.1 wh hj hs, r0, hg, hN, zm149h (d := 62) h.2.2.2.2.1 wh hj h0 hi, decide_eq_false q5, cond_false]
          exact ⟨σ, rfl, zFr_r σ, h.1⟩
    · refine zCq (-13) w (fun σ h => ?_) (fun σ h => ?_)
      · rw [ez_130]
        simp only [zc144 (d := 61) ha, c4, zbs, zBi, decide_eq_true q1, decide_eq_true q2, cond_true, zc18 (d := 62) h.2.2.2.2.1 wh hj hs, if_neg q3, if_neg q4]
        exact ⟨σ, rfl, zFr_r σ⟩
      · rw [ez_254]
        simp only [zm249 (d := 61) ha, m4, zbs, zBi, decide_eq_true q1, decide_eq_true q2, cond_true, zm253 (d := 62) h.2.2.2.2.1 wh hj hs, if_neg q3, if_neg q4]
        exact ⟨σ, rfl, zFr_r σ, h.1⟩
