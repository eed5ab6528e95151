abbrev WGm : Nat → Nat → Nat → Prop := fun g k _ => g = 0 ∧ (k = 61 ∨ k = 66)
theorem zm212 {d n p b : Nat} {T : zS} {σ : zM} (IH : ∀ (T : zS) (s : Int) (σ : zM), 0 ≤ s ∧ s ≤ 1 → wA T → mS 61 T σ → mR 65 T (aHold T) σ → ∃ τ, zev (d + 8) 213 [.inr (.inr (0, 60)), .inl (iI s), .inl (iI n)] σ = some (iI (gV n T s), 0, τ) ∧ zFr WGm σ τ ∧ mS 61 T τ) (w : wA T) (hS : mS 61 T σ) (hh : mR 65 T (aHold T) σ) (hn : n ≤ 4) (hp : p < (T 2).toNat) (h : aSeat T p < 0) (hb : b < (T 0).toNat) : ∃ τ, zev (d + 9) 212 [.inr (.inr (0, 60)), .inl (iI (T (53 + 3 * p))), .inl (iI ((n + 1 : Nat) : Int)), .inl (iI p), .inl (iI b)] σ = some (iI (gL n T (T (53 + 3 * p)) p b), 0, τ) ∧ zFr WGm σ τ ∧ mS 61 T τ := by
  have p1 := w.2.2.1.2.1
  have w2 := w.2.2.1.2.2 p hp
  have b0 := w.1.1
  have b1 := w.1.2.1
  have wT : wA (aSit T p b) := aSit_w w hp (by omega)
  have e0 : aSit T p b 0 = T 0 := aSit_n (by omega)
  have i1 : ∀ z : Int, (1 : Int32) - iI z = iI (1 - z) := fun z => iI_sub 1 z
  have hn1 : iI ((n + 1 : Nat) : Int) - 1 = iI n := by
    show iI _ - iI 1 = _
    rw [iI_sub]; congr 1; omega
  have e180 : zev (d + 8) 180 [.inr (.inr (0, 60)), .inl (iI p), .inl (iI b)] σ = some (0, 0, zwI σ 0 61 (54 + 3 * p) (iI ((b : Int) + 1))) := zm180 (d := d + 6) (by omega)
  have hS1 : mS 61 (aSit T p b) (zwI σ 0 61 (54 + 3 * p) (iI ((b : Int) + 1))) := mS_up hS
  have hh1 : mR 65 (aSit T p b) (aHold (aSit T p b)) (zwI σ 0 61 (54 + 3 * p) (iI ((b : Int) + 1))) := fun u hu => by
    rw [e0] at hu
    rw [zfe (by omega), aSit_hold (by omega) (by omega)]; exact hh u hu
  obtain ⟨τ, g1, g2⟩ := zm171 (d := d) hS1 wT hh1
  have hS2 : mS 61 (aSit T p b) τ := mS_f hS1 (zFr_f g2 (fun i => by omega))
  have hh2 : mR 65 (aSit T p b) (aHold (aSit T p b)) τ := mR_f hh1 (zFr_f g2 (fun i => by omega))
  have fin : ∀ υ : zM, mS 61 (aSit T p b) υ → zFr WGm σ υ → ∃ τ, zev (d + 8) 180 [.inr (.inr (0, 60)), .inl (iI p), .inl (-1)] υ = some (0, 0, τ) ∧ zFr WGm σ τ ∧ mS 61 T τ := by
    intro υ hυ f
    have e : zev (d + 8) 180 [.inr (.inr (0, 60)), .inl (iI p), .inl (iI (-1))] υ = some (0, 0, zwI υ 0 61 (54 + 3 * p) (iI (-1 + 1))) := zm180 (d := d + 6) (z := -1) (by omega)
    have hb' := mS_up (i := 54 + 3 * p) (v := -1 + 1) hυ
    rw [show zup (aSit T p b) (54 + 3 * p) (-1 + 1) = T from aSit_back (aSeat_0 w.2.2.1 hp h)] at hb'
    exact ⟨_, e, zFr_tt f (zFr_w (by omega)), hb'⟩
  have f0 : zFr WGm σ τ := zFr_tt (zFr_w (by omega)) (zFr_i g2 fun _ _ _ q => by omega)
  rw [ez_212]
  simp only [e180, zbs, g1, i1, hn1, zBi]
  unfold gL
  cases q : aCk (aSit T p b)
  · obtain ⟨υ, c1, c2, c3⟩ := IH (aSit T p b) (1 - T (53 + 3 * p)) τ (by omega) wT hS2 hh2
    obtain ⟨υ2, e1, e2, e3⟩ := fin υ c3 (zFr_tt f0 c2)
    rw [Bool.not_false, cond_true, cond_false, c1]
    simp only [zbs, e1]
    exact ⟨υ2, rfl, e2, e3⟩
  · obtain ⟨υ2, e1, e2, e3⟩ := fin τ hS2 f0
    rw [Bool.not_true, cond_false, cond_true, e1]
    simp only [zbs]
    exact ⟨υ2, rfl, e2, e3⟩
theorem zm211 {d : Nat} {s v : Int} {σ : zM} (hs : 0 ≤ s ∧ s ≤ 1) (hv : 0 ≤ v ∧ v ≤ 2) : zev (d + 1) 211 [.inl (iI s), .inl (iI v)] σ = some (iI (gWo s v), 0, σ) := by
  have e2 : (iI v = 2) = (v = 2) := iI_eq (b := 2) (by omega) (by decide)
  rw [ez_211]
  simp only [e2, iI_eq (show zrn v by omega) (show zrn s by omega)]
  unfold gWo
  split
  · rfl
  · split <;> rfl
theorem zm213 : ∀ (n d : Nat) (T : zS) (s : Int) (σ : zM), n ≤ 4 → 0 ≤ s ∧ s ≤ 1 → wA T → mS 61 T σ → mR 65 T (aHold T) σ → ∃ τ, zev (d + 2 * n + 8) 213 [.inr (.inr (0, 60)), .inl (iI s), .inl (iI n)] σ = some (iI (gV n T s), 0, τ) ∧ zFr WGm σ τ ∧ mS 61 T τ
  | 0, d, T, s, σ, hn, hs, w, hS, hh => by
    have b0 := w.1.1
    have b1 := w.1.2.1
    show ∃ τ, zev (d + 7 + 1) 213 _ σ = _ ∧ _
    rw [ez_213]
    simp only
    rw [if_pos (show iI ((0 : Nat) : Int) = 0 from rfl), ez_213_20, hS 0 (by decide)]
    rw [if_pos (show (-1 : Int32) < 0 by decide), if_pos (show (-1 : Int32) < 0 by decide)]
    refine ⟨σ, ?_, zFr_r σ, hS⟩
    split <;> rfl
  | n + 1, d, T, s, σ, hn, hs, w, hS, hh => by
    have p0 := w.2.2.1.1
    have p1 := w.2.2.1.2.1
    have b0 := w.1.1
    have b1 := w.1.2.1
    have e10 : zev (d + 2 * n + 9) 210 [.inr (.inr (0, 60)), .inl (iI s)] σ = _ := zm210 (d := d + 2 * n + 5) (s := s) w.2.2.1 ⟨w.1.1, w.1.2.1⟩ hS hs
    have hd : d + 2 * (n + 1) + 8 = d + 2 * n + 9 + 1 := by omega
    have hb := aId_b (T := T) (s := s) ((T 2).toNat) 0
    have hr := aId_r (T := T) (s := s) ((T 2).toNat) 0
    have h8 : aId T s ((T 2).toNat) 0 ≤ 8 := by
      rcases hr with h | ⟨p, h1, h2, -⟩ <;> omega
    rw [hd, ez_213]
    simp only [e10, zbs]
    rw [if_neg (show ¬ iI ((n + 1 : Nat) : Int) = 0 by rw [iI_0 (by omega)]; omega), gV_s]
    by_cases q : aId T s ((T 2).toNat) 0 < 0
    · rw [if_pos q, ez_213_20, if_pos (show iI (aId T s ((T 2).toNat) 0) < 0 by rw [iI_lt0 (by omega)]; exact q), if_pos (show (-1 : Int32) < 0 by decide)]
      refine ⟨σ, ?_, zFr_r σ, hS⟩
      split <;> rfl
    rw [if_neg q]
    obtain ⟨p, h1, h2, h3, h4⟩ := hr.resolve_left q
    have h2 : p < (T 2).toNat := by omega
    rw [h1, Int.toNat_natCast]
    have key : ∀ (m k : Nat) (B : Int) (σ : zM) (d6 : Option zV), k + m = (T 0).toNat → -1 ≤ B ∧ B ≤ 2 → mS 61 T σ → mR 65 T (aHold T) σ → ∃ τ, zrun (zev (d + 2 * n + 9)) zT_213 20 [some (.inr (.inr (0, 60))), some (.inl (iI s)), some (.inl (iI ((n + 1 : Nat) : Int))), some (.inl (iI p)), some (.inl (iI B)), some (.inl (iI k)), d6] [] σ = some (iI (if gBst s (gL n T s p) (aBrk T) m k B < 0 then 2 else gBst s (gL n T s p) (aBrk T) m k B), 0, τ) ∧ zFr WGm σ τ ∧ mS 61 T τ := by
      intro m
      induction m with
      | zero =>
        intro k B σ d6 hk hB hS hh
        rw [ez_213_20, hS 0 (by decide), if_neg (by rw [iI_lt (by omega) (by omega)]; omega)]
        refine ⟨σ, ?_, zFr_r σ, hS⟩
        show _ = some (iI (if B < 0 then 2 else B), 0, σ)
        simp only [iI_lt0 (show zrn B by omega)]
        by_cases q : B < 0
        · rw [if_pos q, if_pos q]; rfl
        · rw [if_neg q, if_neg q]
      | succ m ih =>
        intro k B σ d6 hk hB hS hh
        have hk9 : k < (T 0).toNat := by omega
        have wb := w.1.2.2 k hk9
        have e57 : zev (d + 2 * n + 9) 157 [.inr (.inr (0, 60)), .inl (iI k)] σ = some (zB (aBrk T k), 0, σ) := zm157 (d := d + 2 * n + 6) hS (by omega) (by omega)
        have eg : gBst s (gL n T s p) (aBrk T) (m + 1) k B = bif aBrk T k then gBst s (gL n T s p) (aBrk T) m (k + 1) B else gBst s (gL n T s p) (aBrk T) m (k + 1) (if B < 0 then gL n T s p k else if gWo s B < gWo s (gL n T s p k) then gL n T s p k else B) := rfl
        rw [eg, ez_213_20, hS 0 (by decide), if_pos (by rw [iI_lt (by omega) (by omega)]; omega), if_neg (by rw [iI_lt0 (by omega)]; omega)]
        simp only [e57, zbs, zBi, hki1, iI_lt0 (show zrn B by omega)]
        cases q2 : aBrk T k
        case true =>
          rw [cond_true, cond_true]
          exact ih (k + 1) B σ none (by omega) hB hS hh
        case false =>
          rw [cond_false, cond_false]
          obtain ⟨τ, g1, g2, g3⟩ := zm212 (d := d + 2 * n) (b := k) (fun T s σ a b c e => zm213 n d T s σ (by omega) a b c e) w hS hh (by omega) h2 h4 hk9
          rw [h3] at g1
          have g1 : zev (d + 2 * n + 9) 212 [.inr (.inr (0, 60)), .inl (iI s), .inl (iI ((n + 1 : Nat) : Int)), .inl (iI p), .inl (iI k)] σ = _ := g1
          have hh3 : mR 65 T (aHold T) τ := mR_f hh (zFr_f g2 (fun i => by omega))
          have hl := gL_r n T s p k hs
          rw [g1]
          simp only [zbs]
          by_cases q4 : B < 0
          · rw [if_pos q4, if_pos q4]
            obtain ⟨υ, f1, f2, f3⟩ := ih (k + 1) (gL n T s p k) τ (some (.inl (iI (gL n T s p k)))) (by omega) (by omega) g3 hh3
            exact ⟨υ, f1, zFr_tt g2 f2, f3⟩
          · have e1 : zev (d + 2 * n + 9) 211 [.inl (iI s), .inl (iI (gL n T s p k))] τ = _ := zm211 (d := d + 2 * n + 8) hs hl
            have e2 : zev (d + 2 * n + 9) 211 [.inl (iI s), .inl (iI B)] τ = _ := zm211 (d := d + 2 * n + 8) hs (by omega)
            have r1 : -1 ≤ gWo s B ∧ gWo s B ≤ 2 := by
              refine ⟨?_, gWo_2⟩
              unfold gWo
              repeat' split
              all_goals omega
            have r2 : -1 ≤ gWo s (gL n T s p k) ∧ gWo s (gL n T s p k) ≤ 2 := by
              refine ⟨?_, gWo_2⟩
              unfold gWo
              repeat' split
              all_goals omega
            rw [if_neg q4, if_neg q4, e1]
            simp only [zbs, e2, iI_lt (show zrn (gWo s B) by omega) (show zrn (gWo s (gL n T s p k)) by omega)]
            by_cases q5 : gWo s B < gWo s (gL n T s p k)
            · rw [if_pos q5, if_pos q5]
              obtain ⟨υ, f1, f2, f3⟩ := ih (k + 1) (gL n T s p k) τ (some (.inl (iI (gL n T s p k)))) (by omega) (by omega) g3 hh3
              exact ⟨υ, f1, zFr_tt g2 f2, f3⟩
            · rw [if_neg q5, if_neg q5]
              obtain ⟨υ, f1, f2, f3⟩ := ih (k + 1) B τ (some (.inl (iI (gL n T s p k)))) (by omega) (by omega) g3 hh3
              exact ⟨υ, f1, zFr_tt g2 f2, f3⟩
    exact key ((T 0).toNat) 0 (-1) σ none (by omega) (by omega) hS hh
theorem zc71 {d n : Nat} {S : zS} {s : Int} {σ : zM} (w : wA S) (hA : cA 0 S σ) (hs : 0 ≤ s ∧ s ≤ 1) (hn : n ≤ 4) : ∃ τ, zev (d + 2 * n + 7) 71 [.inr (.inr (0, 35)), .inr (.inr (0, 0)), .inl (iI s), .inl (iI n)] σ = some (iI (gV n S s), 0, τ) ∧ zFr (WG 3) σ τ ∧ cA 3 S τ ∧ cS 3 S (aSp S) τ := by
  obtain ⟨τ, g1, g2, g3⟩ := zc25 (d := d + 2 * n + 1) (g := 3) (h := 0) (by decide) w hA
  have g1 : zev (d + 2 * n + 6) 25 [.inr (.inr (3, 0)), .inr (.inr (0, 0))] σ = _ := g1
  obtain ⟨τ2, f1, f2, f3, f4, -⟩ := zc27k (d := d + 2 * n + 1) g3 w
  have f1 : zev (d + 2 * n + 6) 27 [.inr (.inr (3, 0))] τ = _ := f1
  obtain ⟨υ, e1, e2, e3, e4⟩ := zc73 n d S s τ2 hn hs w f3 f4
  rw [ez_71]
  simp only [g1, f1, e1, zbs]
  exact ⟨υ, rfl, zFr_tt g2 (zFr_tt (zFr_i f2 fun _ _ _ q => by omega) e2), e3, e4⟩
theorem zm214 {d : Nat} {s n : Int} {σ : zM} (hs : zrn s) (hn : zrn n) : zev (d + 2) 214 [.inl (iI s), .inl (iI n)] σ = some (zB (decide ((0 ≤ s ∧ s ≤ 1) ∧ (1 ≤ n ∧ n ≤ 4))), 0, σ) := by
  have m1 : zev (d + 1) 149 [.inr (.inl (Int32.toInt64 (iI s))), .inr (.inl 0), .inr (.inl 1)] σ = some (zB (decide (0 ≤ s ∧ s ≤ 1)), 0, σ) := zm149k (l := 0) (h := 1) hs (by decide) (by decide)
  have m2 : zev (d + 1) 149 [.inr (.inl (Int32.toInt64 (iI n))), .inr (.inl 1), .inr (.inl 4)] σ = some (zB (decide (1 ≤ n ∧ n ≤ 4)), 0, σ) := zm149k (l := 1) (h := 4) hn (by decide) (by decide)
  rw [ez_214]
  simp only [m1, m2, zbs, zBi]
  by_cases q1 : 0 ≤ s ∧ s ≤ 1
  · by_cases q2 : 1 ≤ n ∧ n ≤ 4
    · rw [decide_eq_true q1, decide_eq_true q2, cond_true, cond_true, zgd_t (by decide), decide_eq_true ⟨q1, q2⟩]; rfl
    · rw [decide_eq_true q1, decide_eq_false q2, cond_true, cond_false, zgd_t (by decide), decide_eq_false (fun z => q2 z.2)]; rfl
  · rw [decide_eq_false q1, cond_false, zgd_t (by decide), decide_eq_false (fun z => q1 z.1)]; rfl
theorem zx_112 {x : zXx} (w : WX x) (s n : Int) (hs : zrn s) (hn : zrn n) : zCall 112 215 [.inl (iI s), .inl (iI n)] x := by
  have c141 : ∀ {σ : zM}, zev 63 141 [.inl (iI n), .inl 1, .inl 4] σ = some (zB (decide (1 ≤ n ∧ n ≤ 4)), 0, σ) := zc141 (l := 1) (h := 4) hn (by decide) (by decide)
  by_cases q1 : 0 ≤ s ∧ s ≤ 1
  case neg =>
    refine zCq (-1) w (fun σ h => ?_) (fun σ h => ?_)
    · rw [ez_112]
      simp only [zc143 hs, zbs, zBi, decide_eq_false q1, cond_false]
      exact ⟨σ, rfl, zFr_r σ⟩
    · rw [ez_215]
      simp only [zm214 (d := 61) hs hn, zbs, zBi, decide_eq_false (show ¬ ((0 ≤ s ∧ s ≤ 1) ∧ (1 ≤ n ∧ n ≤ 4)) from fun z => q1 z.1), cond_false]
      exact ⟨σ, rfl, zFr_r σ, h.1⟩
  by_cases q2 : 1 ≤ n ∧ n ≤ 4
  case neg =>
    refine zCq (-1) w (fun σ h => ?_) (fun σ h => ?_)
    · rw [ez_112]
      simp only [zc143 hs, c141, zbs, zBi, decide_eq_true q1, cond_true, decide_eq_false q2, cond_false]
      exact ⟨σ, rfl, zFr_r σ⟩
    · rw [ez_215]
      simp only [zm214 (d := 61) hs hn, zbs, zBi, decide_eq_false (show ¬ ((0 ≤ s ∧ s ≤ 1) ∧ (1 ≤ n ∧ n ≤ 4)) from fun z => q2 z.2), cond_false]
      exact ⟨σ, rfl, zFr_r σ, h.1⟩
  obtain ⟨m, rfl⟩ := zint (show 0 ≤ n by omega)
  have hm : m ≤ 4 := by omega
  refine zCq (iI (gV m x.1 s)) w (fun σ h => ?_) (fun σ h => ?_)
  · obtain ⟨τ, g1, g2, -, -⟩ := zc71 (d := 56 - 2 * m) (n := m) (s := s) w.1 h.1 q1 hm
    rw [show 56 - 2 * m + 2 * m + 7 = 63 by omega] at g1
    rw [ez_112]
    simp only [zc143 hs, c141, zbs, zBi, decide_eq_true q1, cond_true, decide_eq_true q2, g1]
    exact ⟨τ, rfl, zFr_i g2 fun _ _ _ q => by omega⟩
  · obtain ⟨τ, g1, g2, g3, g4⟩ := zm166c (d := 57) h.1 w.1
    have g1 : zev 63 166 [.inr (.inr (0, 60))] σ = _ := g1
    obtain ⟨υ, f1, f2, f3⟩ := zm213 m (55 - 2 * m) x.1 s τ hm q1 w.1 g3 g4
    rw [show 55 - 2 * m + 2 * m + 8 = 63 by omega] at f1
    rw [ez_215]
    simp only [zm214 (d := 61) hs hn, zbs, zBi, decide_eq_true (show ((0 ≤ s ∧ s ≤ 1) ∧ (1 ≤ (m : Int) ∧ (m : Int) ≤ 4)) from ⟨q1, q2⟩), cond_true, g1, f1]
    exact ⟨υ, rfl, zFr_tt g2 (zFr_i f2 fun _ _ _ q => by omega), f3⟩
def gMv (n : Nat) (T : zS) (s : Int) (p : Nat) (v : Int) : Nat → Nat → Int
  | 0, _ => -3
  | m + 1, k => bif aBrk T k then gMv n T s p v m (k + 1) else if gL n T s p k = v then k else gMv n T s p v m (k + 1)
theorem zx_113 {x : zXx} (w : WX x) (s n : Int) (hs : zrn s) (hn : zrn n) : zCall 113 216 [.inl (iI s), .inl (iI n)] x := by
  have c141 : ∀ {σ : zM}, zev 63 141 [.inl (iI n), .inl 1, .inl 4] σ = some (zB (decide (1 ≤ n ∧ n ≤ 4)), 0, σ) := zc141 (l := 1) (h := 4) hn (by decide) (by decide)
  by_cases q1 : 0 ≤ s ∧ s ≤ 1
  case neg =>
    refine zCq (-1) w (fun σ h => ?_) (fun σ h => ?_)
    · rw [ez_113]
      simp only [zc143 hs, zbs, zBi, decide_eq_false q1, cond_false]
      exact ⟨σ, rfl, zFr_r σ⟩
    · rw [ez_216]
      simp only [zm214 (d := 61) hs hn, zbs, zBi, decide_eq_false (show ¬ ((0 ≤ s ∧ s ≤ 1) ∧ (1 ≤ n ∧ n ≤ 4)) from fun z => q1 z.1), cond_false]
      exact ⟨σ, rfl, zFr_r σ, h.1⟩
  by_cases q2 : 1 ≤ n ∧ n ≤ 4
  case neg =>
    refine zCq (-1) w (fun σ h => ?_) (fun σ h => ?_)
    · rw [ez_113]
      simp only [zc143 hs, c141, zbs, zBi, decide_eq_true q1, cond_true, decide_eq_false q2, cond_false]
      exact ⟨σ, rfl, zFr_r σ⟩
    · rw [ez_216]
      simp only [zm214 (d := 61) hs hn, zbs, zBi, decide_eq_false (show ¬ ((0 ≤ s ∧ s ≤ 1) ∧ (1 ≤ n ∧ n ≤ 4)) from fun z => q2 z.2), cond_false]
      exact ⟨σ, rfl, zFr_r σ, h.1⟩
  obtain ⟨m', hm'⟩ := zint (show 0 ≤ n - 1 by omega)
  obtain rfl : n = ((m' + 1 : Nat) : Int) := by omega
  have hm : m' + 1 ≤ 4 := by omega
  have wT := w.1
  have p0 := wT.2.2.1.1
  have p1 := wT.2.2.1.2.1
  have b0 := wT.1.1
  have b1 := wT.1.2.1
  have hb := aId_b (T := x.1) (s := s) ((x.1 2).toNat) 0
  have hr := aId_r (T := x.1) (s := s) ((x.1 2).toNat) 0
  have h8 : aId x.1 s ((x.1 2).toNat) 0 ≤ 8 := by
    rcases hr with h | ⟨p, h1, h2, -⟩ <;> omega
  have hv := gV_r (m' + 1) x.1 s q1
  refine zCq (if aId x.1 s ((x.1 2).toNat) 0 < 0 then -3 else iI (gMv m' x.1 s (aId x.1 s ((x.1 2).toNat) 0).toNat (gV (m' + 1) x.1 s) ((x.1 0).toNat) 0)) w (fun σ h => ?_) (fun σ h => ?_)
  · obtain ⟨τ, g1, g2, g3, g4⟩ := zc71 (d := 55 - 2 * (m' + 1)) (n := m' + 1) (s := s) wT h.1 q1 hm
    rw [show 55 - 2 * (m' + 1) + 2 * (m' + 1) + 7 = 62 by omega] at g1
    have e39 : zev 62 39 [.inr (.inr (3, 15)), .inl (iI s)] τ = _ := zc39 (d := 61) (s := s) wT.2.2.1 ⟨b0, b1⟩ g3.2.2.2.1 q1
    have e9 : (iI (cE (aId x.1 s ((x.1 2).toNat) 0)) = -9) = (aId x.1 s ((x.1 2).toNat) 0 < 0) := by
      rw [show (-9 : Int32) = iI (-9) by decide, iI_eq (by unfold cE; split <;> omega) (by decide)]
      unfold cE
      split
      · rename_i q; simp [q]
      · rename_i q; simp [q]; omega
    have e72 : ∃ υ, zev 63 72 [.inr (.inr (0, 35)), .inr (.inr (0, 0)), .inl (iI s), .inl (iI ((m' + 1 : Nat) : Int))] σ = some (if aId x.1 s ((x.1 2).toNat) 0 < 0 then -3 else iI (gMv m' x.1 s (aId x.1 s ((x.1 2).toNat) 0).toNat (gV (m' + 1) x.1 s) ((x.1 0).toNat) 0), 0, υ) ∧ zFr (WG 3) σ υ := by
      rw [ez_72]
      simp only [g1, e39, zbs, e9]
      by_cases q : aId x.1 s ((x.1 2).toNat) 0 < 0
      · rw [if_pos q, if_pos q]
        exact ⟨τ, rfl, g2⟩
      rw [if_neg q, if_neg q, show cE (aId x.1 s ((x.1 2).toNat) 0) = aId x.1 s ((x.1 2).toNat) 0 from if_neg q]
      obtain ⟨p, h1, h2, h3, h4⟩ := hr.resolve_left q
      have h2 : p < (x.1 2).toNat := by omega
      rw [h1, Int.toNat_natCast]
      have key : ∀ (m k : Nat) (τ : zM) (d1 d2 : Option zV), k + m = (x.1 0).toNat → cA 3 x.1 τ → cS 3 x.1 (aSp x.1) τ → ∃ υ, zrun (zev 62) zT_72 35 [some (.inr (.inr (0, 35))), d1, d2, some (.inl (iI ((m' + 1 : Nat) : Int))), some (.inl (iI (gV (m' + 1) x.1 s))), some (.inl (iI p)), some (.inl (iI k))] [] τ = some (iI (gMv m' x.1 s p (gV (m' + 1) x.1 s) m k), 0, υ) ∧ zFr (WG 3) τ υ := by
        intro m
        induction m with
        | zero =>
          intro k τ d1 d2 hk hA hS
          rw [ez_72_35, hA.1.1, if_neg (by rw [iI_lt (by omega) (by omega)]; omega)]
          exact ⟨τ, rfl, zFr_r τ⟩
        | succ m ih =>
          intro k τ d1 d2 hk hA hS
          have e14 : zev 62 14 [.inr (.inr (3, 1)), .inl (iI k)] τ = some (zB (!aBrk x.1 k), 0, τ) := by
            have := zc14 (d := 60) (z := (k : Int)) hA.1 hA.2.1 wT.1 (by omega)
            rw [decide_eq_true (by omega), Bool.true_and, Int.toNat_natCast] at this
            exact this
          have eg : gMv m' x.1 s p (gV (m' + 1) x.1 s) (m + 1) k = bif aBrk x.1 k then gMv m' x.1 s p (gV (m' + 1) x.1 s) m (k + 1) else if gL m' x.1 s p k = gV (m' + 1) x.1 s then (k : Int) else gMv m' x.1 s p (gV (m' + 1) x.1 s) m (k + 1) := rfl
          rw [eg, ez_72_35, hA.1.1, if_pos (by rw [iI_lt (by omega) (by omega)]; omega)]
          simp only [e14, zbs, zBi, hki1]
          cases q2 : aBrk x.1 k
          case true =>
            rw [Bool.not_true, cond_false, cond_true]
            exact ih (k + 1) τ none none (by omega) hA hS
          case false =>
            obtain ⟨υ, f1, f2, f3, f4⟩ := zc74 (d := 55) (b := k) (fun T s σ a b c e => by
              obtain ⟨τ, y1, y2⟩ := zc73 m' (55 - 2 * m') T s σ (by omega) a b c e
              rw [show 55 - 2 * m' + 2 * m' + 6 = 55 + 6 by omega] at y1
              exact ⟨τ, y1, y2⟩) wT hA hS (by omega) h2 h4 (by omega)
            rw [h3] at f1
            have f1 : zev 62 74 [.inr (.inr (0, 35)), .inl (iI p), .inl (iI k), .inl (iI ((m' + 1 : Nat) : Int))] τ = _ := f1
            have hl := gL_r m' x.1 s p k q1
            rw [Bool.not_false, cond_true, cond_false, f1]
            simp only [zbs, iI_eq (show zrn (gL m' x.1 s p k) by omega) (show zrn (gV (m' + 1) x.1 s) by omega)]
            by_cases q5 : gL m' x.1 s p k = gV (m' + 1) x.1 s
            · rw [if_pos q5, if_pos q5]
              exact ⟨υ, rfl, f2⟩
            · rw [if_neg q5, if_neg q5]
              obtain ⟨υ2, y1, y2⟩ := ih (k + 1) υ none none (by omega) f3 f4
              exact ⟨υ2, y1, zFr_tt f2 y2⟩
      obtain ⟨υ, y1, y2⟩ := key ((x.1 0).toNat) 0 τ _ _ (by omega) g3 g4
      exact ⟨υ, y1, zFr_tt g2 y2⟩
    obtain ⟨υ, y1, y2⟩ := e72
    rw [ez_113]
    simp only [zc143 hs, c141, zbs, zBi, decide_eq_true q1, cond_true, decide_eq_true q2, y1]
    exact ⟨υ, rfl, zFr_i y2 fun _ _ _ q => by omega⟩
  · obtain ⟨τ, g1, g2, g3, g4⟩ := zm166c (d := 57) h.1 w.1
    have g1 : zev 63 166 [.inr (.inr (0, 60))] σ = _ := g1
    obtain ⟨υ, f1, f2, f3⟩ := zm213 (m' + 1) (55 - 2 * (m' + 1)) x.1 s τ hm q1 w.1 g3 g4
    rw [show 55 - 2 * (m' + 1) + 2 * (m' + 1) + 8 = 63 by omega] at f1
    have f4 : mR 65 x.1 (aHold x.1) υ := mR_f g4 (zFr_f f2 (fun i => by omega))
    have e10 : zev 63 210 [.inr (.inr (0, 60)), .inl (iI s)] υ = _ := zm210 (d := 59) (s := s) wT.2.2.1 ⟨b0, b1⟩ f3 q1
    have fr : zFr WM σ υ := zFr_tt g2 (zFr_i f2 fun _ _ _ q => by omega)
    rw [ez_216]
    simp only [zm214 (d := 61) hs hn, zbs, zBi, decide_eq_true (show ((0 ≤ s ∧ s ≤ 1) ∧ (1 ≤ ((m' + 1 : Nat) : Int) ∧ ((m' + 1 : Nat) : Int) ≤ 4)) from ⟨q1, q2⟩), cond_true, g1, f1, e10]
    by_cases q : aId x.1 s ((x.1 2).toNat) 0 < 0
    · rw [if_pos q, ez_216_31, f3 0 (by decide), if_pos (show iI (aId x.1 s ((x.1 2).toNat) 0) < 0 by rw [iI_lt0 (by omega)]; exact q)]
      refine ⟨υ, ?_, fr, f3⟩
      split <;> rfl
    rw [if_neg q]
    obtain ⟨p, h1, h2, h3, h4⟩ := hr.resolve_left q
    have h2 : p < (x.1 2).toNat := by omega
    rw [h1, Int.toNat_natCast]
    have key : ∀ (m k : Nat) (τ : zM), k + m = (x.1 0).toNat → mS 61 x.1 τ → mR 65 x.1 (aHold x.1) τ → ∃ υ, zrun (zev 63) zT_216 31 [some (.inr (.inr (0, 60))), some (.inl (iI s)), some (.inl (iI ((m' + 1 : Nat) : Int))), some (.inl (iI (gV (m' + 1) x.1 s))), some (.inl (iI p)), some (.inl (iI k))] [] τ = some (iI (gMv m' x.1 s p (gV (m' + 1) x.1 s) m k), 0, υ) ∧ zFr WGm τ υ ∧ mS 61 x.1 υ := by
      intro m
      induction m with
      | zero =>
        intro k τ hk hS hh
        rw [ez_216_31, hS 0 (by decide), if_neg (by rw [iI_lt (by omega) (by omega)]; omega)]
        exact ⟨τ, rfl, zFr_r τ, hS⟩
      | succ m ih =>
        intro k τ hk hS hh
        have hk9 : k < (x.1 0).toNat := by omega
        have wb := wT.1.2.2 k hk9
        have e57 : zev 63 157 [.inr (.inr (0, 60)), .inl (iI k)] τ = some (zB (aBrk x.1 k), 0, τ) := zm157 (d := 60) hS (by omega) (by omega)
        have eg : gMv m' x.1 s p (gV (m' + 1) x.1 s) (m + 1) k = bif aBrk x.1 k then gMv m' x.1 s p (gV (m' + 1) x.1 s) m (k + 1) else if gL m' x.1 s p k = gV (m' + 1) x.1 s then (k : Int) else gMv m' x.1 s p (gV (m' + 1) x.1 s) m (k + 1) := rfl
        rw [eg, ez_216_31, hS 0 (by decide), if_pos (by rw [iI_lt (by omega) (by omega)]; omega), if_neg (by rw [iI_lt0 (by omega)]; omega)]
        simp only [e57, zbs, zBi, hki1]
        cases q2 : aBrk x.1 k
        case true =>
          rw [cond_true, cond_true]
          exact ih (k + 1) τ (by omega) hS hh
        case false =>
          obtain ⟨υ, f1, f2, f3⟩ := zm212 (d := 54) (b := k) (fun T s σ a b c e => by
            obtain ⟨τ, y1, y2⟩ := zm213 m' (54 - 2 * m') T s σ (by omega) a b c e
            rw [show 54 - 2 * m' + 2 * m' + 8 = 54 + 8 by omega] at y1
            exact ⟨τ, y1, y2⟩) wT hS hh (by omega) h2 h4 hk9
          rw [h3] at f1
          have f1 : zev 63 212 [.inr (.inr (0, 60)), .inl (iI s), .inl (iI ((m' + 1 : Nat) : Int)), .inl (iI p), .inl (iI k)] τ = _ := f1
          have hl := gL_r m' x.1 s p k q1
          rw [cond_false, cond_false, f1]
          simp only [zbs, iI_eq (show zrn (gL m' x.1 s p k) by omega) (show zrn (gV (m' + 1) x.1 s) by omega)]
          by_cases q5 : gL m' x.1 s p k = gV (m' + 1) x.1 s
          · rw [if_pos q5, if_pos q5]
            exact ⟨υ, rfl, f2, f3⟩
          · rw [if_neg q5, if_neg q5]
            obtain ⟨υ2, y1, y2, y3⟩ := ih (k + 1) υ (by omega) f3 (mR_f hh (zFr_f f2 (fun i => by omega)))
            exact ⟨υ2, y1, zFr_tt f2 y2, y3⟩
    obtain ⟨υ2, y1, y2, y3⟩ := key ((x.1 0).toNat) 0 υ (by omega) f3 f4
    exact ⟨υ2, y1, zFr_tt fr (zFr_i y2 fun _ _ _ q => by omega), y3⟩
