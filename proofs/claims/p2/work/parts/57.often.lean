theorem aCk_c {S T : zS} (w : wA S) (h : ∀ i, i ≠ 6 → T i = S i) : aCk T = aCk S := by
  have b1 := w.1.2.1
  have e0 : T 0 = S 0 := h 0 (by omega)
  have : zcr (aCr T (aSp T)) ((T 0).toNat) = zcr (aCr S (aSp S)) ((S 0).toNat) := by
    rw [e0]
    refine zcr_c fun i hi => ?_
    have e1 : aSp T i = aSp S i := by
      unfold aSp
      rw [aHold_c (by omega) (fun j hj => h j (by have : dH j := hj; omega)), aBear_c w.1 w.2.2.1 hi (h 2 (by omega)) (h 5 (by omega)) (fun j _ _ _ => h j (by omega)) (fun j _ _ => h j (by omega))]
    unfold aCr aBrk
    rw [e1, h (11 + 5 * i) (by omega)]
  unfold aCk
  rw [this]
def oA (p : Nat → Bool) : Nat → Int → Nat → Nat
  | 0, _, c => c
  | n + 1, z, c => oA p n (aDz z) (bif p (aWv (aDz z)).toNat then c + 1 else c)
theorem zx_121 {x : zXx} (w : WX x) (n : Int) (hn : zrn n) : zCall 121 225 [.inl (iI n)] x := by
  have c1 : ∀ {σ : zM}, zev 63 141 [.inl (iI n), .inl 1, .inl 60] σ = some (zB (decide (1 ≤ n ∧ n ≤ 60)), 0, σ) := zc141 (l := 1) (h := 60) hn (by decide) (by decide)
  have m1 : ∀ {σ : zM}, zev 63 149 [.inr (.inl (Int32.toInt64 (iI n))), .inr (.inl 1), .inr (.inl 60)] σ = some (zB (decide (1 ≤ n ∧ n ≤ 60)), 0, σ) := zm149k (l := 1) (h := 60) hn (by decide) (by decide)
  by_cases q1 : 1 ≤ n ∧ n ≤ 60
  case neg =>
    refine zCq (-1) w (fun σ h => ?_) (fun σ h => ?_)
    · rw [ez_121]
      simp only [c1, zbs, zBi, decide_eq_false q1, cond_false]
      exact ⟨σ, rfl, zFr_r σ⟩
    · rw [ez_225]
      simp only [m1, zbs, zBi, decide_eq_false q1, cond_false]
      exact ⟨σ, rfl, zFr_r σ, h.1⟩
  obtain ⟨N', rfl⟩ := zint (show 0 ≤ n by omega)
  have wS := w.1
  refine zCq (iI (oA (fun v => aCk (zup x.1 5 v)) N' (x.1 6) 0 : Nat)) w (fun σ h => ?_) (fun σ h => ?_)
  · obtain ⟨τ, g1, g2, g3⟩ := zc25 (d := 57) (g := 1) (by decide) w.1 h.1
    have g1 : zev 62 25 [.inr (.inr (1, 0)), .inr (.inr (0, 0))] σ = _ := g1
    obtain ⟨υ, f1, f2⟩ := zc109 wS 10 0 x.1 τ (by omega) (fun _ => rfl) wS g3
    have f1 : zrun (zev 62) zT_109 15 [some (.inr (.inr (0, 30))), some (.inl 0), some (.inl 0)] [] τ = _ := f1
    have e109 : zev 63 109 [.inr (.inr (0, 30))] σ = some (zcr (fun v => aCk (zup x.1 5 v)) 10, 0, υ) := by
      rw [ez_109]
      simp only [g1, zbs]
      exact f1
    have hz : υ.1 0 0 3 = iI (x.1 6) := (f2.1 _ _ _ (by omega)).trans ((g2.1 _ _ _ (by omega)).trans h.1.2.2.2.2.2.2)
    have key : ∀ (m k c : Nat) (z : Int) (d0 : Option zV), k + m = N' → c ≤ k → zrun (zev 63) zT_121 31 [d0, some (.inl (iI N')), some (.inl (zcr (fun v => aCk (zup x.1 5 v)) 10)), some (.inl (iI z)), some (.inl (iI c)), some (.inl (iI k))] [] υ = some (iI (oA (fun v => aCk (zup x.1 5 v)) m z c : Nat), 0, υ) := by
      intro m
      induction m with
      | zero =>
        intro k c z d0 hk hc
        rw [ez_121_31, if_neg (by rw [iI_lt (by omega) (by omega)]; omega)]
        rfl
      | succ m ih =>
        intro k c z d0 hk hc
        have hr := aWv_r (aDz z)
        obtain ⟨v, hv⟩ := zint hr.1
        have e1 : zev 63 122 [.inl (iI z)] υ = some (iI (aDz z), 0, υ) := by rw [ez_122, aDz_e]
        have e2 : zev 63 123 [.inl (iI (aDz z))] υ = some (iI v, 0, υ) := by
          rw [ez_123, ← hv, aWv_e]; rfl
        have eg : oA (fun v => aCk (zup x.1 5 v)) (m + 1) z c = oA (fun v => aCk (zup x.1 5 v)) m (aDz z) (bif aCk (zup x.1 5 (aWv (aDz z)).toNat) then c + 1 else c) := rfl
        rw [eg, ez_121_31, if_pos (by rw [iI_lt (by omega) (by omega)]; omega)]
        simp only [e1, e2, zbs, zc145 (d := 62) (show v < 32 by omega), zcr_b 10 (by decide) v (by omega), decide_eq_true (show v < 10 by omega), Bool.true_and, zBi, hki1, hv, Int.toNat_natCast]
        cases aCk (zup x.1 5 v)
        · exact ih (k + 1) c (aDz z) none (by omega) (by omega)
        · exact ih (k + 1) (c + 1) (aDz z) none (by omega) (by omega)
    have k1 := key N' 0 0 (x.1 6) (some (.inr (.inr (0, 30)))) (by omega) (Nat.le_refl _)
    rw [ez_121]
    simp only [c1, zbs, zBi, decide_eq_true q1, cond_true, e109, hz]
    exact ⟨υ, k1, zFr_tt (zFr_i g2 fun _ _ _ q => by omega) (zFr_i f2 fun _ _ _ q => by omega)⟩
  · have n6 : Int32.toNatClampNeg 6 = 6 := by decide
    have h3 : ∀ (τ : zM) (v : Int32), (zwI τ 0 61 5 v).1 0 61 5 = v := fun _ _ => zfs
    have h4 : ∀ (τ : zM) (v : Int32), (zwI τ 0 61 6 v).1 0 61 6 = v := fun _ _ => zfs
    have key : ∀ (m k c : Nat) (T : zS) (τ : zM), k + m = N' → c ≤ k → wA T → (∀ i, i ≠ 5 → i ≠ 6 → T i = x.1 i) → mS 61 T τ → zFr WM σ τ → ∃ υ, zrun (zev 63) zT_225 35 [some (.inr (.inr (0, 60))), some (.inl (iI N')), some (.inl (iI (x.1 6))), some (.inl (iI (x.1 5))), some (.inl (iI c)), some (.inl (iI k))] [] τ = some (iI (oA (fun v => aCk (zup x.1 5 v)) m (T 6) c : Nat), 0, υ) ∧ zFr WM σ υ ∧ mS 61 x.1 υ := by
      intro m
      induction m with
      | zero =>
        intro k c T τ hk hc wT hT hS f
        rw [ez_225_35, if_neg (by rw [iI_lt (by omega) (by omega)]; omega)]
        have h2 := mS_up (i := 5) (v := x.1 5) (mS_up (i := 6) (v := x.1 6) hS)
        have e : zup (zup T 6 (x.1 6)) 5 (x.1 5) = x.1 := funext fun i => by
          by_cases a : i = 5
          · subst a; rw [zup_s]
          · rw [zup_n a]
            by_cases b : i = 6
            · subst b; rw [zup_s]
            · rw [zup_n b]; exact hT i a b
        rw [e] at h2
        exact ⟨_, rfl, zFr_tt f (zFr_tt (zFr_w (by omega)) (zFr_w (by omega))), h2⟩
      | succ m ih =>
        intro k c T τ hk hc wT hT hS f
        have hr := aWv_r (aDz (T 6))
        obtain ⟨v, hv⟩ := zint hr.1
        have w1 := wA_z (v := aDz (T 6)) wT (t_rn _)
        have wU : wA (aDr T) := wA_wt (i := 5) w1 (Or.inr rfl) hr
        have h2 := mS_up (i := 5) (v := aWv (aDz (T 6))) (mS_up (i := 6) (v := aDz (T 6)) hS)
        have e224 : zev 63 224 [.inr (.inr (0, 60))] τ = some (iI (aWv (aDz (T 6))), 0, zwI (zwI τ 0 61 6 (iI (aDz (T 6)))) 0 61 5 (iI (aWv (aDz (T 6))))) := by
          rw [ez_224]
          simp only [hS 6 (by decide), n6, h3, h4, zgd_t (show zin 6 320 = true by decide)]
          rw [aWv_e, aDz_e]
          rfl
        have hU : mS 61 (aDr T) (zwI (zwI (zwI τ 0 61 6 (iI (aDz (T 6)))) 0 61 5 (iI (aWv (aDz (T 6))))) 0 61 5 (iI (aWv (aDz (T 6))))) := by
          have := mS_up (i := 5) (v := aWv (aDz (T 6))) h2
          rwa [zup_up] at this
        have hU6 : aDr T 6 = aDz (T 6) := by
          unfold aDr
          rw [zup_n (by omega), zup_s]
        have hU5 : ∀ i, i ≠ 5 → i ≠ 6 → aDr T i = x.1 i := fun i a b => by
          unfold aDr
          rw [zup_n a, zup_n b]; exact hT i a b
        have ek : aCk (aDr T) = aCk (zup x.1 5 v) := by
          refine aCk_c (wA_wt (i := 5) wS (Or.inr rfl) (by omega)) fun i hi => ?_
          by_cases a : i = 5
          · subst a
            unfold aDr
            rw [zup_s, zup_s, hv]
          · rw [zup_n a]; exact hU5 i a hi
        obtain ⟨τ2, g1, g2, g3, g4⟩ := zm166c (d := 57) hU wU
        have g1 : zev 63 166 [.inr (.inr (0, 60))] _ = _ := g1
        obtain ⟨τ3, y1, y2⟩ := zm171 (d := 55) g3 wU g4
        have y1 : zev 63 171 [.inr (.inr (0, 60))] τ2 = _ := y1
        have fr : zFr WM σ τ3 := zFr_tt f (zFr_tt (zFr_tt (zFr_tt (zFr_tt (zFr_w (by omega)) (zFr_w (by omega))) (zFr_w (by omega))) g2) (zFr_i y2 fun _ _ _ q => by omega))
        have eg : oA (fun v => aCk (zup x.1 5 v)) (m + 1) (T 6) c = oA (fun v => aCk (zup x.1 5 v)) m (aDz (T 6)) (bif aCk (zup x.1 5 (aWv (aDz (T 6))).toNat) then c + 1 else c) := rfl
        have a0 : iI (c : Int) + 0 = iI (c : Int) := Int32.add_zero _
        rw [eg, ez_225_35, if_pos (by rw [iI_lt (by omega) (by omega)]; omega)]
        simp only [e224, zbs, g1, y1, zBi, ek, hki1, a0]
        rw [hv, Int.toNat_natCast]
        have ih' := fun c hc => ih (k + 1) c (aDr T) τ3 (by omega) hc wU hU5 (mS_f g3 (zFr_f y2 (fun i => by omega))) fr
        rw [hU6] at ih'
        cases aCk (zup x.1 5 v)
        · exact ih' c (by omega)
        · exact ih' (c + 1) (by omega)
    obtain ⟨υ, y1, y2, y3⟩ := key N' 0 0 x.1 σ (by omega) (Nat.le_refl _) wS (fun _ _ _ => rfl) h.1 (zFr_r σ)
    rw [ez_225]
    simp only [m1, zbs, zBi, decide_eq_true q1, cond_true, h.1 6 (by decide), h.1 5 (by decide)]
    exact ⟨υ, y1, y2, y3⟩
