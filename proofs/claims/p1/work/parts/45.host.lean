/-! taken, climbs -/
theorem zx_133 {x : zXx} (w : WX x) (a s : Int) (ha : zrn a) (hs : zrn s) : zCall 133 258 [.inl (iI a), .inl (iI s)] x := by
  have wh := w.2.2.2.2.1
  have b0 := w.1.1.1
  have b1 := w.1.1.2.1
  have c5 : ∀ {σ : zM}, zev 63 141 [.inl (iI s), .inl 0, .inl 5] σ = some (zB (decide (0 ≤ s ∧ s ≤ 5)), 0, σ) := zc141 (l := 0) (h := 5) hs (by decide) (by decide)
  have c14 : ∀ {σ : zM}, zev 63 141 [.inl (iI s), .inl 10, .inl 14] σ = some (zB (decide (10 ≤ s ∧ s ≤ 14)), 0, σ) := zc141 (l := 10) (h := 14) hs (by decide) (by decide)
  have m5 : ∀ {σ : zM}, zev 63 149 [.inr (.inl (Int32.toInt64 (iI s))), .inr (.inl 0), .inr (.inl 5)] σ = some (zB (decide (0 ≤ s ∧ s ≤ 5)), 0, σ) := zm149k (l := 0) (h := 5) hs (by decide) (by decide)
  have m14 : ∀ {σ : zM}, zev 63 149 [.inr (.inl (Int32.toInt64 (iI s))), .inr (.inl 10), .inr (.inl 14)] σ = some (zB (decide (10 ≤ s ∧ s ≤ 14)), 0, σ) := zm149k (l := 10) (h := 14) hs (by decide) (by decide)
  by_cases q1 : 0 ≤ a ∧ a ≤ 3
  case neg =>
    refine zCq (-1) w (fun σ h => ?_) (fun σ h => ?_)
    · rw [ez_133]
      simp only [c5, zc144 (d := 61) ha, zbs, zBi, decide_eq_false q1, cond_false]
      exact ⟨σ, rfl, zFr_r σ⟩
    · rw [ez_258]
      simp only [zm249 (d := 61) ha, zbs, zBi, decide_eq_false q1, cond_false]
      exact ⟨σ, rfl, zFr_r σ, h.1⟩
  case pos =>
  by_cases q2 : (0 ≤ s ∧ s ≤ 5) ∨ (10 ≤ s ∧ s ≤ 14)
  case neg =>
    refine zCq (-1) w (fun σ h => ?_) (fun σ h => ?_)
    · rw [ez_133]
      simp only [c5, zc144 (d := 61) ha, zbs, zBi, decide_eq_true q1, cond_true, decide_eq_false (show ¬ (0 ≤ s ∧ s ≤ 5) by omega), cond_false, c14, decide_eq_false (show ¬ (10 ≤ s ∧ s ≤ 14) by omega)]
      exact ⟨σ, rfl, zFr_r σ⟩
    · rw [ez_258]
      simp only [zm249 (d := 61) ha, m5, zbs, zBi, decide_eq_true q1, cond_true, decide_eq_false (show ¬ (0 ≤ s ∧ s ≤ 5) by omega), cond_false, m14, decide_eq_false (show ¬ (10 ≤ s ∧ s ≤ 14) by omega)]
      exact ⟨σ, rfl, zFr_r σ, h.1⟩
  case pos =>
  obtain ⟨j, rfl⟩ := zint q1.1
  have hj : j < 4 := by omega
  have u := wh j hj
  have hg : ∀ {y : zR}, zgd (zin (iI j) 4) y = y := fun {y} => zgd_t (iI_ink (z := j) (k := j) rfl hj (by decide))
  have hN : Int32.toNatClampNeg (iI j) = j := iI_Nn (by omega)
  have ho := aOn_r w hj
  have i10 : iI s - 10 = iI (s - 10) := iI_sub s 10
  have hc : ∀ σ, zev 64 133 [.inr (.inr (0, 30)), .inl (iI j), .inl (iI s)] σ = zrun (zev 63) zT_133 31 [some (.inr (.inr (0, 30))), some (.inl (iI j)), some (.inl (iI s)), some (.inl (zB (decide (0 ≤ s ∧ s ≤ 5)))), none] [] σ := fun σ => by
    rw [ez_133]
    simp only [c5, zc144 (d := 61) ha, zbs, zBi, decide_eq_true q1, cond_true, c14]
    by_cases q : 0 ≤ s ∧ s ≤ 5
    · rw [decide_eq_true q]; rfl
    · rw [decide_eq_false q, decide_eq_true (show 10 ≤ s ∧ s ≤ 14 by omega)]; rfl
  have hm : ∀ σ, zev 64 258 [.inr (.inr (0, 60)), .inl (iI j), .inl (iI s)] σ = zrun (zev 63) zT_258 35 [some (.inr (.inr (0, 60))), some (.inl (iI j)), some (.inl (iI s)), none, none] [] σ := fun σ => by
    rw [ez_258]
    simp only [zm249 (d := 61) ha, m5, zbs, zBi, decide_eq_true q1, cond_true, m14]
    by_cases q : 0 ≤ s ∧ s ≤ 5
    · rw [decide_eq_true q]; rfl
    · rw [decide_eq_false q, decide_eq_true (show 10 ≤ s ∧ s ≤ 14 by omega)]; rfl
  refine zCq (if (xh x).2.2.2.1 j = 2 then (if (xh x).2.2.2.2.2 j = s - 10 then iI ((xh x).2.2.2.2.1 j) else -13) else if aOn x j < 0 then -11 else if (0 ≤ s ∧ s ≤ 5) ∧ aUnd (x.1 (7 + 5 * (aOn x j).toNat)) s = true then iI (aOn x j) else -13) w (fun σ h => ?_) (fun σ h => ?_)
  · have g := h.2.2.2.2.1 j hj
    have e2 : (iI ((xh x).2.2.2.1 j) = 2) = ((xh x).2.2.2.1 j = 2) := iI_eq (b := 2) (by omega) (by decide)
    have e24 : zev 63 24 [.inr (.inr (0, 41)), .inl (iI j)] σ = some (zB (decide ((xh x).2.2.2.1 j = 2)), 0, σ) := by
      rw [ez_24]
      simp only [hg, hN, g.2.2.2.1, e2]
      exact zB_d
    refine ⟨σ, ?_, zFr_r σ⟩
    rw [hc, ez_133_31, e24]
    simp only [zbs, zBi, hg, hN, i10]
    by_cases q3 : (xh x).2.2.2.1 j = 2
    · rw [decide_eq_true q3, cond_true, if_pos q3, g.2.2.2.2.2 q3]
      simp only [iI_eq (show zrn ((xh x).2.2.2.2.2 j) by omega) (show zrn (s - 10) by omega)]
      by_cases q4 : (xh x).2.2.2.2.2 j = s - 10
      · rw [if_pos q4, if_pos q4, g.2.2.2.2.1 (by omega)]
      · rw [if_neg q4, if_neg q4]
    · rw [decide_eq_false q3, cond_false, if_neg q3, zc137 (d := 61) w h hj]
      have hcz : zrn (cE (aOn x j)) := by unfold cE; split <;> omega
      simp only [zbs, iI_n9 hcz]
      by_cases q5 : aOn x j < 0
      · rw [if_pos (show cE (aOn x j) = -9 from if_pos q5), if_pos q5]
      · have hce : cE (aOn x j) = aOn x j := if_neg q5
        obtain ⟨b, hb⟩ := zint (show 0 ≤ aOn x j by omega)
        have w2 := w.1.1.2.2 b (by omega)
        rw [hce, if_neg (by omega), if_neg q5, hb, Int.toNat_natCast, zgd_t (iI_ink (z := b) (k := b) rfl (show b < 9 by omega) (by decide)), iI_Nn (show b ≤ 2147483647 by omega), (h.1.1.2 b (by omega)).1]
        by_cases q6 : 0 ≤ s ∧ s ≤ 5
        · rw [decide_eq_true q6, cond_true, zc146 (d := 62) (show 0 ≤ x.1 (7 + 5 * b) ∧ x.1 (7 + 5 * b) ≤ 5 by omega) q6]
          simp only [zbs, zBi]
          cases q7 : aUnd (x.1 (7 + 5 * b)) s
          · rw [if_neg (fun z => by cases z.2)]; rfl
          · rw [if_pos ⟨q6, rfl⟩]; rfl
        · rw [decide_eq_false q6, cond_false, if_neg (fun z => q6 z.1)]
  · have g := h.2.2.2.2.1 j hj
    have e257 : zev 63 257 [.inr (.inr (0, 60)), .inl (iI j)] σ = some (iI (aOn x j), 0, σ) := by
      have := zm257 (d := 60) w h.1 h.2.2.2.2.1 ha
      rw [if_pos q1, Int.toNat_natCast] at this
      exact this
    have e2 : (iI ((xh x).2.2.2.1 j) < 2) = ((xh x).2.2.2.1 j < 2) := iI_lt (b := 2) (by omega) (by decide)
    have e6 : (iI s < 6) = (s < 6) := iI_lt (b := 6) hs (by decide)
    refine ⟨σ, ?_, zFr_r σ, h.1⟩
    have z1 : ¬ ((1 : Nat) = 0) := by decide
    have aon2 : (xh x).2.2.2.1 j = 2 → aOn x j = -1 := fun q => if_neg (fun z => by omega)
    rw [hm, ez_258_35, e257]
    simp only [zbs, iI_lt0 (show zrn (aOn x j) by omega), hg, hN, g.2.2.2.2.1, e2]
    by_cases q3 : (xh x).2.2.2.1 j = 2
    · have q3' := aon2 q3
      rw [if_pos (by omega), if_neg (by omega), if_pos q3, ez_258_58, if_pos (by rw [q3']; decide), hg, hN, g.2.2.2.2.2.2 q3, i10, hg, g.2.2.2.2.2.1 (by omega)]
      simp only [iI_eq (show zrn (s - 10) by omega) (show zrn ((xh x).2.2.2.2.2 j) by omega)]
      by_cases q4 : (xh x).2.2.2.2.2 j = s - 10
      · rw [if_pos q4.symm, if_neg z1, if_pos q4]
      · rw [if_neg (fun z => q4 z.symm), if_pos trivial, if_neg q4]
    · rw [if_neg q3]
      by_cases q5 : aOn x j < 0
      · rw [if_pos q5, if_pos (by omega), if_pos q5]
      · obtain ⟨b, hb⟩ := zint (show 0 ≤ aOn x j by omega)
        have w2 := w.1.1.2.2 b (by omega)
        have hnum : (xh x).2.2.2.2.1 j = b ∧ (xh x).2.2.2.1 j = 1 := by
          unfold aOn at hb
          split at hb
          · rename_i z; exact ⟨hb, z.1⟩
          · omega
        have e56 := zm156 (d := 61) (b := b) (w := 0) h.1 (by omega)
        have e56 : zev 63 156 [.inr (.inr (0, 60)), .inl (iI b), .inl 0] σ = some (iI (x.1 (7 + 5 * b)), 0, σ) := e56
        rw [if_neg q5, if_neg q5, ez_258_58, hb, if_neg (by rw [iI_lt0 (by omega)]; omega), Int.toNat_natCast]
        simp only [e6, e56, zbs]
        by_cases q6 : 0 ≤ s ∧ s ≤ 5
        · rw [if_pos (by omega), zm161 (d := 62) (show 0 ≤ x.1 (7 + 5 * b) ∧ x.1 (7 + 5 * b) ≤ 5 by omega) q6]
          simp only [zbs, zBi]
          cases q7 : aUnd (x.1 (7 + 5 * b)) s
          · rw [cond_false, if_pos trivial, if_neg (fun z => by cases z.2)]
          · rw [cond_true, if_neg z1, hg, hN, g.2.2.2.2.2.1 (by omega), hnum.1, if_pos ⟨q6, rfl⟩]
        · rw [if_neg (by omega), if_pos trivial, if_neg (fun z => q6 z.1)]
/-- climbs: of n places from i + k on -/
def aCl (f : Nat → Int) (sz i : Int) (p : Nat) : Nat → Nat → zS → Int → zS × Int
  | 0, _, S, c => (S, c)
  | m + 1, k, S, c => if ¬ (0 ≤ i + k ∧ i + k < sz) then (S, -12) else if (0 ≤ f (i + k).toNat ∧ f (i + k).toNat < S 0) ∧ aBrk S (f (i + k).toNat).toNat = false then aCl f sz i p m (k + 1) (aSit S p (f (i + k).toNat)) (c + 1) else aCl f sz i p m (k + 1) S c
theorem zx_131 {x : zXx} (w : WX x) (p a i n : Int) (hp : zrn p) (ha : zrn a) (hi : zrn i) (hn : zrn n) : zCall 131 255 [.inl (iI p), .inl (iI a), .inl (iI i), .inl (iI n)] x := by
  have wh := w.2.2.2.2.1
  have b0 := w.1.1.1
  have b1 := w.1.1.2.1
  have wp := w.1.2.2.1
  have p0 := wp.1
  have p1 := wp.2.1
  have c20 : ∀ {σ : zM}, zev 63 141 [.inl (iI n), .inl 0, .inl 20] σ = some (zB (decide (0 ≤ n ∧ n ≤ 20)), 0, σ) := zc141 (l := 0) (h := 20) hn (by decide) (by decide)
  have m20 : ∀ {σ : zM}, zev 63 149 [.inr (.inl (Int32.toInt64 (iI n))), .inr (.inl 0), .inr (.inl 20)] σ = some (zB (decide (0 ≤ n ∧ n ≤ 20)), 0, σ) := zm149k (l := 0) (h := 20) hn (by decide) (by decide)
  by_cases q0 : 0 ≤ p ∧ p < x.1 2
  case neg =>
    refine zCq (-1) w (fun σ h => ?_) (fun σ h => ?_)
    · rw [ez_131]
      simp only [zc37 h.1.2.2.2.1.1 ⟨p0, p1⟩ hp, zbs, zBi, decide_eq_false q0, cond_false]
      exact ⟨σ, rfl, zFr_r σ⟩
    · rw [ez_255]
      simp only [zm151 (d := 61) h.1 ⟨p0, p1⟩ hp, zbs, zBi, decide_eq_false q0, cond_false]
      exact ⟨σ, rfl, zFr_r σ, h.1⟩
  case pos =>
  by_cases q1 : 0 ≤ a ∧ a ≤ 3
  case neg =>
    refine zCq (-1) w (fun σ h => ?_) (fun σ h => ?_)
    · rw [ez_131]
      simp only [zc37 h.1.2.2.2.1.1 ⟨p0, p1⟩ hp, zc144 (d := 61) ha, zbs, zBi, decide_eq_true q0, cond_true, decide_eq_false q1, cond_false]
      exact ⟨σ, rfl, zFr_r σ⟩
    · rw [ez_255]
      simp only [zm151 (d := 61) h.1 ⟨p0, p1⟩ hp, zm249 (d := 61) ha, zbs, zBi, decide_eq_true q0, cond_true, decide_eq_false q1, cond_false]
      exact ⟨σ, rfl, zFr_r σ, h.1⟩
  case pos =>
  by_cases q2 : 0 ≤ n ∧ n ≤ 20
  case neg =>
    refine zCq (-1) w (fun σ h => ?_) (fun σ h => ?_)
    · rw [ez_131]
      simp only [zc37 h.1.2.2.2.1.1 ⟨p0, p1⟩ hp, zc144 (d := 61) ha, c20, zbs, zBi, decide_eq_true q0, decide_eq_true q1, cond_true, decide_eq_false q2, cond_false]
      exact ⟨σ, rfl, zFr_r σ⟩
    · rw [ez_255]
      simp only [zm151 (d := 61) h.1 ⟨p0, p1⟩ hp, zm249 (d := 61) ha, m20, zbs, zBi, decide_eq_true q0, decide_eq_true q1, cond_true, decide_eq_false q2, cond_false]
      exact ⟨σ, rfl, zFr_r σ, h.1⟩
  case pos =>
  obtain ⟨P, rfl⟩ := zint q0.1
  obtain ⟨j, rfl⟩ := zint q1.1
  obtain ⟨N', rfl⟩ := zint q2.1
  have hj : j < 4 := by omega
  have hP : P < (x.1 2).toNat := by omega
  have u := wh j hj
  have z0 : zrn 0 := by decide
  by_cases q3 : (xh x).1 j = 0
  case neg =>
    refine zCq (if (xh x).1 j = -1 then -11 else if (xh x).1 j = 0 then 0 else -13) w (fun σ h => ?_) (fun σ h => ?_)
    · have e18 := zc18 (d := 62) (s := 0) h.2.2.2.2.1 wh hj z0
      have e18 : zev 63 18 [.inr (.inr (0, 41)), .inl (iI j), .inl 0] σ = _ := e18
      rw [ez_131]
      simp only [zc37 h.1.2.2.2.1.1 ⟨p0, p1⟩ hp, zc144 (d := 61) ha, c20, zbs, zBi, decide_eq_true q0, decide_eq_true q1, cond_true, decide_eq_true q2, e18]
      refine ⟨σ, ?_, zFr_r σ⟩
      rw [if_neg]
      by_cases q : (xh x).1 j = -1
      · rw [if_pos q]; decide
      · rw [if_neg q, if_neg q3]; decide
    · have e53 := zm253 (d := 62) (s := 0) h.2.2.2.2.1 wh hj z0
      have e53 : zev 63 253 [.inr (.inr (0, 60)), .inl (iI j), .inl 0] σ = _ := e53
      rw [ez_255]
      simp only [zm151 (d := 61) h.1 ⟨p0, p1⟩ hp, zm249 (d := 61) ha, m20, zbs, zBi, decide_eq_true q0, decide_eq_true q1, cond_true, decide_eq_true q2, e53]
      refine ⟨σ, ?_, zFr_r σ, h.1⟩
      rw [if_neg]
      by_cases q : (xh x).1 j = -1
      · rw [if_pos q]; decide
      · rw [if_neg q, if_neg q3]; decide
  case pos =>
  have h0 : 0 ≤ (xh x).1 j := by omega
  have v0 : (if (xh x).1 j = -1 then (-11 : Int32) else if (xh x).1 j = 0 then 0 else -13) = 0 := by rw [if_neg (by omega), if_pos q3]
  have hg : ∀ {y : zR}, zgd (zin (iI j) 4) y = y := fun {y} => zgd_t (iI_ink (z := j) (k := j) rfl hj (by decide))
  have hN : Int32.toNatClampNeg (iI j) = j := iI_Nn (by omega)
  have hgP : ∀ {y : zR}, zgd (zin (iI P) 8) y = y := fun {y} => zgd_t (iI_ink (z := P) (k := P) rfl (by omega) (by decide))
  have hNP : Int32.toNatClampNeg (iI P) = P := iI_Nn (by omega)
  have hcl := aCl ((xh x).2.2.1 j) ((xh x).2.1 j) i P N' 0 x.1 0
  have e1 : ∀ (k : Nat), 1 ≤ k → True := fun _ _ => trivial
  have wAll : ∀ (m k : Nat) (S : zS) (c : Int), wA S → S 0 = x.1 0 → S 2 = x.1 2 → wA (aCl ((xh x).2.2.1 j) ((xh x).2.1 j) i P m k S c).1 := by
    intro m
    induction m with
    | zero => intro k S c hS _ _; exact hS
    | succ m ih =>
      intro k S c hS hS0 hS2
      unfold aCl
      split
      · exact hS
      · split
        · rename_i z
          exact ih _ _ _ (aSit_w hS (by rw [hS2]; exact hP) ⟨by omega, z.1.2⟩) ((aSit_n (by omega)).trans hS0) ((aSit_n (by omega)).trans hS2)
        · exact ih _ _ _ hS hS0 hS2
  have wKl : ∀ (m k : Nat) (S : zS) (c : Int) (u : Nat), u < 52 → (aCl ((xh x).2.2.1 j) ((xh x).2.1 j) i P m k S c).1 u = S u := by
    intro m
    induction m with
    | zero => intro k S c u _; rfl
    | succ m ih =>
      intro k S c u hu
      unfold aCl
      split
      · rfl
      · split
        · exact (ih _ _ _ u hu).trans (aSit_n (by omega))
        · exact ih _ _ _ u hu
  refine zCs (aCl ((xh x).2.2.1 j) ((xh x).2.1 j) i P N' 0 x.1 0).1 (iI (aCl ((xh x).2.2.1 j) ((xh x).2.1 j) i P N' 0 x.1 0).2) w (wAll N' 0 x.1 0 w.1 rfl rfl) (wK_c w.2.2.2.2.2.2.1 w.1.1 (wKl N' 0 x.1 0 0 (by decide)) (fun u _ hu _ => wKl N' 0 x.1 0 u hu)) (fun σ h => ?_) (fun σ h => ?_)
  · have e18 := zc18 (d := 62) (s := 0) h.2.2.2.2.1 wh hj z0
    rw [v0] at e18
    have e18 : zev 63 18 [.inr (.inr (0, 41)), .inl (iI j), .inl 0] σ = _ := e18
    have key : ∀ (m k : Nat) (S : zS) (c : Int) (τ : zM) (d5 d8 : Option zV), k + m = N' → (k = 0 ∨ i < 40) → 0 ≤ c → c ≤ k → wA S → S 0 = x.1 0 → S 2 = x.1 2 → cA 0 S τ → cHo (xh x) τ → ∃ υ, zrun (zev 63) zT_131 59 [some (.inr (.inr (0, 30))), some (.inl (iI P)), some (.inl (iI j)), some (.inl (iI i)), some (.inl (iI N')), d5, some (.inl (iI c)), some (.inl (iI k)), d8] [] τ = some (iI (aCl ((xh x).2.2.1 j) ((xh x).2.1 j) i P m k S c).2, 0, υ) ∧ zFr WD τ υ ∧ cA 0 (aCl ((xh x).2.2.1 j) ((xh x).2.1 j) i P m k S c).1 υ := by
      intro m
      induction m with
      | zero =>
        intro k S c τ d5 d8 hk _ hc hck hw hS0 hS2 hA hH
        rw [ez_131_59, if_neg (by rw [iI_lt (by omega) (by omega)]; omega)]
        exact ⟨τ, rfl, zFr_r τ, hA⟩
      | succ m ih =>
        intro k S c τ d5 d8 hk hki hc hck hw hS0 hS2 hA hH
        have hik : zrn (i + k) := by omega
        have e : aCl ((xh x).2.2.1 j) ((xh x).2.1 j) i P (m + 1) k S c = if ¬ (0 ≤ i + k ∧ i + k < (xh x).2.1 j) then (S, -12) else if (0 ≤ (xh x).2.2.1 j (i + k).toNat ∧ (xh x).2.2.1 j (i + k).toNat < S 0) ∧ aBrk S ((xh x).2.2.1 j (i + k).toNat).toNat = false then aCl ((xh x).2.2.1 j) ((xh x).2.1 j) i P m (k + 1) (aSit S P ((xh x).2.2.1 j (i + k).toNat)) (c + 1) else aCl ((xh x).2.2.1 j) ((xh x).2.1 j) i P m (k + 1) S c := rfl
        rw [ez_131_59, if_pos (by rw [iI_lt (by omega) (by omega)]; omega), iI_add, zc19 (d := 62) hH wh hj h0 hik]
        simp only [zbs, zBi]
        by_cases q4 : 0 ≤ i + k ∧ i + k < (xh x).2.1 j
        case neg =>
          rw [if_pos q4] at e
          rw [decide_eq_false q4, cond_false, e]
          exact ⟨τ, rfl, zFr_r τ, hA⟩
        case pos =>
          rw [if_neg (fun z => z q4)] at e
          obtain ⟨t, ht⟩ := zint q4.1
          rw [ht] at q4 e ⊢
          rw [Int.toNat_natCast] at e
          have ht4 : t < 40 := by omega
          have hzt := u.2.2.2.2.1 t ht4
          rw [decide_eq_true q4, cond_true, hg, zgd_t (iI_ink (z := t) (k := t) rfl ht4 (by decide)), hN, iI_Nn (show t ≤ 2147483647 by omega), (hH j hj).2.2.1 h0 t ht4, lI_32, zc14 (d := 61) hA.1 hA.2.1 hw.1 hzt]
          simp only [zbs, zBi, hgP, hNP, hki1, iI_a1]
          by_cases q5 : (0 ≤ (xh x).2.2.1 j t ∧ (xh x).2.2.1 j t < S 0) ∧ aBrk S ((xh x).2.2.1 j t).toNat = false
          · rw [if_pos q5] at e
            rw [decide_eq_true q5.1, q5.2, e]
            have hA2 := cA_sit (p := P) (z := (xh x).2.2.1 j t) hA hw (by omega)
            rw [show cE ((xh x).2.2.1 j t) = (xh x).2.2.1 j t from if_neg (by omega)] at hA2
            obtain ⟨υ, g1, g2, g3⟩ := ih (k + 1) (aSit S P ((xh x).2.2.1 j t)) (c + 1) _ none (some (.inl (iI ((xh x).2.2.1 j t)))) (by omega) (by omega) (by omega) (by omega) (aSit_w hw (by rw [hS2]; exact hP) ⟨by omega, q5.1.2⟩) ((aSit_n (by omega)).trans hS0) ((aSit_n (by omega)).trans hS2) hA2 (cHo_f hH (fun k a b => zfn (by omega)) rfl)
            exact ⟨υ, g1, zFr_tt (zFr_w (by omega)) g2, g3⟩
          · rw [if_neg q5] at e
            rw [e]
            have hx : (decide (0 ≤ (xh x).2.2.1 j t ∧ (xh x).2.2.1 j t < S 0) && !aBrk S ((xh x).2.2.1 j t).toNat) = false := by
              by_cases q6 : 0 ≤ (xh x).2.2.1 j t ∧ (xh x).2.2.1 j t < S 0
              · cases q7 : aBrk S ((xh x).2.2.1 j t).toNat
                · exact absurd ⟨q6, q7⟩ q5
                · rw [Bool.not_true, Bool.and_false]
              · rw [decide_eq_false q6, Bool.false_and]
            rw [hx, cond_false]
            exact ih (k + 1) S c τ none _ (by omega) (by omega) (by omega) (by omega) hw hS0 hS2 hA hH
    obtain ⟨υ, g1, g2, g3⟩ := key N' 0 x.1 0 σ (some (.inl 0)) none (by omega) (Or.inl rfl) (by omega) (by omega) w.1 rfl rfl h.1 h.2.2.2.2.1
    rw [ez_131]
    simp only [zc37 h.1.2.2.2.1.1 ⟨p0, p1⟩ hp, zc144 (d := 61) ha, c20, zbs, zBi, decide_eq_true q0, decide_eq_true q1, cond_true, decide_eq_true q2, e18, if_true]
    exact ⟨υ, g1, g2, g3⟩
  · have e53 := zm253 (d := 62) (s := 0) h.2.2.2.2.1 wh hj z0
    rw [v0] at e53
    have e53 : zev 63 253 [.inr (.inr (0, 60)), .inl (iI j), .inl 0] σ = _ := e53
    have key : ∀ (m k : Nat) (S : zS) (c : Int) (τ : zM) (d5 d8 : Option zV), k + m = N' → (k = 0 ∨ i < 40) → 0 ≤ c → c ≤ k → wA S → S 0 = x.1 0 → S 2 = x.1 2 → mS 61 S τ → mHo (xh x) τ → ∃ υ, zrun (zev 63) zT_255 52 [some (.inr (.inr (0, 60))), some (.inl (iI P)), some (.inl (iI j)), some (.inl (iI i)), some (.inl (iI N')), d5, some (.inl (iI c)), some (.inl (iI k)), d8] [] τ = some (iI (aCl ((xh x).2.2.1 j) ((xh x).2.1 j) i P m k S c).2, 0, υ) ∧ zFr WM τ υ ∧ mS 61 (aCl ((xh x).2.2.1 j) ((xh x).2.1 j) i P m k S c).1 υ := by
      intro m
      induction m with
      | zero =>
        intro k S c τ d5 d8 hk _ hc hck hw hS0 hS2 hS hH
        rw [ez_255_52, if_neg (by rw [iI_lt (by omega) (by omega)]; omega)]
        exact ⟨τ, rfl, zFr_r τ, hS⟩
      | succ m ih =>
        intro k S c τ d5 d8 hk hki hc hck hw hS0 hS2 hS hH
        have hik : zrn (i + k) := by omega
        have e : aCl ((xh x).2.2.1 j) ((xh x).2.1 j) i P (m + 1) k S c = if ¬ (0 ≤ i + k ∧ i + k < (xh x).2.1 j) then (S, -12) else if (0 ≤ (xh x).2.2.1 j (i + k).toNat ∧ (xh x).2.2.1 j (i + k).toNat < S 0) ∧ aBrk S ((xh x).2.2.1 j (i + k).toNat).toNat = false then aCl ((xh x).2.2.1 j) ((xh x).2.1 j) i P m (k + 1) (aSit S P ((xh x).2.2.1 j (i + k).toNat)) (c + 1) else aCl ((xh x).2.2.1 j) ((xh x).2.1 j) i P m (k + 1) S c := rfl
        have e64 : Int32.toInt64 (iI i) + Int32.toInt64 (iI k) = Int32.toInt64 (iI (i + k)) := by
          apply Int64.toInt_inj.mp
          rw [Int64.toInt_add, zt64 hi, zt64 (by omega), zt64 hik, Int.bmod_def]
          omega
        have a0 : ∀ z : Int, iI z + 0 = iI z := fun z => Int32.add_zero _
        rw [ez_255_52, if_pos (by rw [iI_lt (by omega) (by omega)]; omega), hg, hN, e64, zm149h (d := 62) hH wh hj h0 hik]
        simp only [zbs, zBi, a0, hki1, iI_a1]
        by_cases q4 : 0 ≤ i + k ∧ i + k < (xh x).2.1 j
        case neg =>
          rw [if_pos q4] at e
          rw [decide_eq_false q4, cond_false, e]
          exact ⟨τ, rfl, zFr_r τ, hS⟩
        case pos =>
          rw [if_neg (fun z => z q4)] at e
          obtain ⟨t, ht⟩ := zint q4.1
          have i0 : (40 : Int32) * iI j + iI i + iI k = iI ((40 * j + t : Nat) : Int) := by
            show iI 40 * iI j + iI i + iI k = _
            rw [iI_mul, iI_add, iI_add]; congr 1; omega
          rw [ht] at q4 e
          rw [ht]
          rw [Int.toNat_natCast] at e
          have ht4 : t < 40 := by omega
          have hzt := u.2.2.2.2.1 t ht4
          have hr := aSeat_r hw.2.2.1 (show P < (S 2).toNat by rw [hS2]; exact hP)
          have hb0 := hw.1.1
          have hb1 := hw.1.2.1
          have s0 := hw.2.2.1.1
          have s1 := hw.2.2.1.2.1
          have eM1 : ∀ z : Int, zrn z → (iI z = -1) = (z = -1) := fun z hz => by rw [zlitm1]; exact iI_eq hz (by decide)
          have eM4 : ∀ z : Int, zrn z → (iI z = -4) = (z = -4) := fun z hz => by rw [show (-4 : Int32) = iI (-4) by decide]; exact iI_eq hz (by decide)
          rw [decide_eq_true q4, cond_true, i0, zgd_t (iI_ink (z := ((40 * j + t : Nat) : Int)) (k := 40 * j + t) rfl (show 40 * j + t < 160 by omega) (by decide)), iI_Nn (show 40 * j + t ≤ 2147483647 by omega), (hH j hj).2.2.1 h0 t ht4]
          -- sit
          have e51 := zm151 (d := 60) (S := S) (z := P) (σ := τ) hS ⟨s0, s1⟩ (by omega)
          have e50 := zm150 (d := 60) (S := S) (z := (xh x).2.2.1 j t) (σ := τ) hS ⟨hb0, hb1⟩ hzt
          rw [decide_eq_true (show 0 ≤ (P : Int) ∧ (P : Int) < S 2 by rw [hS2]; omega)] at e51
          by_cases q6 : 0 ≤ (xh x).2.2.1 j t ∧ (xh x).2.2.1 j t < S 0
          · rw [decide_eq_true q6] at e50
            obtain ⟨b, hb⟩ := zint q6.1
            have w2 := hw.1.2.2 b (by omega)
            have e57 := zm157 (d := 59) (S := S) (b := b) (σ := τ) hS (by omega) (show 0 ≤ S (11 + 5 * b) ∧ S (11 + 5 * b) ≤ 1 by omega)
            rw [hb] at e50 e ⊢
            rw [Int.toNat_natCast] at e
            cases q7 : aBrk S b
            · rw [q7] at e57
              rw [if_pos ⟨by omega, q7⟩] at e
              have hcz : cE (aSeat S P) = -9 ∨ (0 ≤ cE (aSeat S P) ∧ cE (aSeat S P) ≤ 9) := by unfold cE; split <;> omega
              have e84 : zev 63 184 [.inr (.inr (0, 60)), .inl (iI P), .inl (iI b)] τ = some (iI (cE (aSeat S P)), 0, zwI τ 0 61 (54 + 3 * P) (iI ((b : Int) + 1))) := by
                rw [ez_184]
                simp only [e51, e50, e57, zbs, zBi, cond_true, cond_false, zm182 (d := 58) hS (show P < 8 by omega) ⟨hr.1, by omega⟩, zm180 (d := 60) (z := (b : Int)) (σ := τ) (show P < 8 by omega)]
              rw [e84, e]
              simp only [zbs, eM1 _ (show zrn (cE (aSeat S P)) by omega), eM4 _ (show zrn (cE (aSeat S P)) by omega)]
              rw [if_neg (by omega), if_neg (by omega)]
              obtain ⟨υ, g1, g2, g3⟩ := ih (k + 1) (aSit S P b) (c + 1) (zwI τ 0 61 (54 + 3 * P) (iI ((b : Int) + 1))) none (some (.inl (iI (cE (aSeat S P))))) (by omega) (by omega) (by omega) (by omega) (aSit_w hw (by rw [hS2]; exact hP) ⟨by omega, by omega⟩) ((aSit_n (by omega)).trans hS0) ((aSit_n (by omega)).trans hS2) (mS_up hS) (mHo_f hH (fun k a b => zfn (by omega)))
              exact ⟨υ, g1, zFr_tt (zFr_w (by omega)) g2, g3⟩
            · rw [q7] at e57
              rw [if_neg (fun z => by rw [q7] at z; cases z.2)] at e
              have e84 : zev 63 184 [.inr (.inr (0, 60)), .inl (iI P), .inl (iI b)] τ = some (-4, 0, τ) := by
                rw [ez_184]
                simp only [e51, e50, e57, zbs, zBi, cond_true]
              rw [e84, e]
              simp only [zbs]
              rw [if_neg (by decide), if_pos trivial]
              exact ih (k + 1) S c τ none _ (by omega) (by omega) (by omega) (by omega) hw hS0 hS2 hS hH
          · rw [decide_eq_false q6] at e50
            rw [if_neg (fun z => q6 z.1)] at e
            have e84 : zev 63 184 [.inr (.inr (0, 60)), .inl (iI P), .inl (iI ((xh x).2.2.1 j t))] τ = some (-1, 0, τ) := by
              rw [ez_184]
              simp only [e51, e50, zbs, zBi, cond_true, cond_false]
            rw [e84, e]
            simp only [zbs]
            rw [if_pos trivial]
            exact ih (k + 1) S c τ none _ (by omega) (by omega) (by omega) (by omega) hw hS0 hS2 hS hH
    obtain ⟨υ, g1, g2, g3⟩ := key N' 0 x.1 0 σ (some (.inl 0)) none (by omega) (Or.inl rfl) (by omega) (by omega) w.1 rfl rfl h.1 h.2.2.2.2.1
    rw [ez_255]
    simp only [zm151 (d := 61) h.1 ⟨p0, p1⟩ hp, zm249 (d := 61) ha, m20, zbs, zBi, decide_eq_true q0, decide_eq_true q1, cond_true, decide_eq_true q2, e53, if_true]
    exact ⟨υ, g1, g2, g3⟩
