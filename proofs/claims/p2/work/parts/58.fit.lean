def zCall0 (J J2 : Nat) (as : List zV) (x : zXx) : Prop := ∃ x', WX x' ∧ (∀ σ, RC x σ → ∃ v w τ, zev 64 J (.inr (.inr (0, 30)) :: as) σ = some (v, w, τ) ∧ RC x' τ) ∧ (∀ σ, RM x σ → ∃ v w τ, zev 64 J2 (.inr (.inr (0, 60)) :: as) σ = some (v, w, τ) ∧ RM x' τ)
theorem zCall_0 {J J2 : Nat} {as : List zV} {x : zXx} (h : zCall J J2 as x) : zCall0 J J2 as x := by
  obtain ⟨x', v, w, h1, h2⟩ := h
  exact ⟨x', w, fun σ q => ⟨v, h1 σ q⟩, fun σ q => ⟨v, h2 σ q⟩⟩
theorem zCall2_0 {J J2 : Nat} {as : List zV} {x : zXx} (h : zCall2 J J2 as x) : zCall0 J J2 as x := by
  obtain ⟨x', v, v2, w, h1, h2⟩ := h
  exact ⟨x', w, fun σ q => ⟨v, h1 σ q⟩, fun σ q => ⟨v2, h2 σ q⟩⟩
abbrev W19 : Nat → Nat → Nat → Prop := fun g k i => g = 0 ∧ k = 19 ∧ (i = 3 ∨ i = 4)
def cV (S : zS) (σ : zM) : Prop := cA 0 S σ ∧ cS 0 S (aSp S) σ
theorem cV_f {S : zS} {σ τ : zM} (h : cV S σ) (f : zFr W19 σ τ) : cV S τ := ⟨cA_c h.1 (fun k _ _ _ c => zFr_f f (fun i => by omega)) (f.1 _ _ _ (by omega)), fun b hb => (f.1 _ _ _ (by omega)).trans (h.2 b hb)⟩
theorem zc43s {d r : Nat} {S : zS} {σ : zM} (w : wA S) (h : cV S σ) (hr : r < (S 3).toNat) : ∃ τ, zev (d + 4) 43 [.inr (.inr (0, 19)), .inr (.inr (0, 0)), .inl (iI r)] σ = some (0, 0, τ) ∧ zFr W19 σ τ := by
  have b0 := w.1.1
  have b1 := w.1.2.1
  have r1 := w.2.2.2.1.2.1
  have wr := w.2.2.2.1.2.2 r hr
  have hR := h.1.2.2.2.2.1.2 r hr
  have hg : ∀ {y : zR}, zgd (zin (iI (r : Int)) 6) y = y := fun {y} => zgd_t (iI_ink (z := r) (k := r) rfl (by omega) (by decide))
  have hN : Int32.toNatClampNeg (iI (r : Int)) = r := iI_Nn (by omega)
  obtain ⟨b, hb⟩ := zint wr.1
  rw [hb] at hR wr
  have fin : ∀ (s0 : Int32) (d1 d3 : Option zV), ∃ τ, zrun (zev (d + 3)) zT_43 45 [some (.inr (.inr (0, 19))), d1, some (.inl (iI r)), d3] [.inl s0] σ = some (0, 0, τ) ∧ zFr W19 σ τ := by
    intro s0 d1 d3
    rw [ez_43_45, hg]
    simp only [z272 (d := d + 2), z273 (d := d + 2), zbs]
    split
    · exact ⟨_, rfl, zFr_w (by omega)⟩
    · exact ⟨_, rfl, zFr_w (by omega)⟩
  have e14 : zev (d + 3) 14 [.inr (.inr (0, 1)), .inl (iI b)] σ = some (zB (!aBrk S b), 0, σ) := by
    have := zc14 (d := d + 1) (z := (b : Int)) h.1.1 h.1.2.1 w.1 (by omega)
    rw [decide_eq_true (by omega), Bool.true_and, Int.toNat_natCast] at this
    exact this
  rw [ez_43]
  simp only [hg, hN, hR.1, e14, zbs, zBi, zc29 (d := d) h.1.1 h.1.2.1 w.1 h.2 (aSp_r w), zCk, zc32 (d := d) h.1.1 w.1 h.2 (aSp_r w) (show b < (S 0).toNat by omega)]
  cases aBrk S b
  · rw [Bool.not_false, cond_true]
    cases aCk S
    · rw [cond_false]; exact fin _ _ _
    · rw [cond_true]; exact fin _ _ _
  · rw [Bool.not_true, cond_false]
    exact ⟨_, rfl, zFr_w (by omega)⟩
theorem zc42s {d : Nat} {S : zS} {σ : zM} {a : Int32} (w : wA S) (h : cV S σ) : ∃ τ, zev (d + 5) 42 [.inr (.inr (0, 19)), .inr (.inr (0, 0)), .inl a] σ = some (0, 0, τ) ∧ zFr W19 σ τ := by
  have r0 := w.2.2.2.1.1
  have r1 := w.2.2.2.1.2.1
  have key : ∀ (m k : Nat) (σ : zM), k + m = (S 3).toNat → cV S σ → ∃ τ, zrun (zev (d + 4)) zT_42 14 [some (.inr (.inr (0, 19))), some (.inr (.inr (0, 0))), some (.inl a), some (.inl (iI k))] [] σ = some (0, 0, τ) ∧ zFr W19 σ τ := by
    intro m
    induction m with
    | zero =>
      intro k σ hk h
      rw [ez_42_14, h.1.2.2.2.2.1.1, if_neg (by rw [iI_lt (by omega) (by omega)]; omega)]
      exact ⟨σ, rfl, zFr_r σ⟩
    | succ m ih =>
      intro k σ hk h
      rw [ez_42_14, h.1.2.2.2.2.1.1, if_pos (by rw [iI_lt (by omega) (by omega)]; omega)]
      obtain ⟨τ, g1, g2⟩ := zc43s (d := d) (r := k) w h (by omega)
      simp only [g1, zbs, hki1]
      split
      · exact ih (k + 1) σ (by omega) h
      · obtain ⟨υ, y1, y2⟩ := ih (k + 1) τ (by omega) (cV_f h g2)
        exact ⟨υ, y1, zFr_tt g2 y2⟩
  have f0 : zFr W19 σ (zwI (zwI σ 0 19 3 1) 0 19 4 200) := zFr_tt (zFr_w (by omega)) (zFr_w (by omega))
  obtain ⟨υ, y1, y2⟩ := key (S 3).toNat 0 _ (by omega) (cV_f h f0)
  rw [ez_42]
  exact ⟨υ, y1, zFr_tt f0 y2⟩
theorem zc44s {d : Nat} {σ : zM} : ∃ v, zev (d + 2) 44 [.inr (.inr (0, 19))] σ = some (v, 0, σ) := by
  rw [ez_44]
  simp only [z272 (d := d), zbs]
  exact ⟨_, rfl⟩
def mV (S : zS) (σ : zM) : Prop := mS 61 S σ ∧ mR 65 S (aHold S) σ
abbrev W12 : Nat → Nat → Nat → Prop := fun g k i => g = 0 ∧ (k = 66 ∨ (k = 60 ∧ 12 ≤ i ∧ i ≤ 14))
theorem mV_f {S : zS} {σ τ : zM} (h : mV S σ) (f : zFr W12 σ τ) : mV S τ := ⟨mS_f h.1 (zFr_f f (fun i => by omega)), mR_f h.2 (zFr_f f (fun i => by omega))⟩
theorem zm219 {d b : Nat} {S : zS} {W : Nat} {σ : zM} (w : wA S) (h : mV S σ) (hb : b < (S 0).toNat) (hW : W ≤ 200) : ∃ v τ, zev (d + 7) 219 [.inr (.inr (0, 60)), .inl (iI b), .inl (iI W)] σ = some (zB v, 0, τ) ∧ zFr W12 σ τ := by
  have b0 := w.1.1
  have b1 := w.1.2.1
  obtain ⟨τ, g1, g2, g3⟩ := zm168 (d := d) h.1 w.1 w.2.1 w.2.2.1
  have hS2 : mS 61 S τ := mS_f h.1 (zFr_f g2 (fun i => by omega))
  obtain ⟨τ2, f1, f2, f3⟩ := zm167e (d := d + 2) (x := (W : Int)) (z := (b : Int)) w.1 (by omega) (by omega) hS2 g3
  have f1 : zev (d + 6) 167 [.inr (.inr (0, 60)), .inl (iI b), .inl (iI W)] τ = _ := f1
  have hS3 : mS 61 S τ2 := mS_f hS2 (zFr_f f2 (fun i => by omega))
  have hh3 : mR 65 S (aHold S) τ2 := mR_f (mR_f h.2 (zFr_f g2 (fun i => by omega))) (zFr_f f2 (fun i => by omega))
  have hF : mF S (fun u => aHold S u - (aBear S u + bif aAbI S b u then (W : Int) else 0)) τ2 := ⟨aHold S, _, hh3, f3, fun u hu => by
    have h1 := aHold_b w.1 w.2.1 w.2.2.2.2.1 hu
    have h2 := aBear_b w.1 w.2.1 w.2.2.1 hu
    refine ⟨rfl, by omega, ?_⟩
    show zrn (aBear S u + bif aAbI S b u then (W : Int) else 0)
    cases aAbI S b u
    · rw [cond_false]; omega
    · rw [cond_true]; omega⟩
  have key : ∀ (m k : Nat) (v : Bool) (d1 d2 : Option zV), k + m = (S 0).toNat → ∃ u, zrun (zev (d + 6)) zT_219 15 [some (.inr (.inr (0, 60))), d1, d2, some (.inl (zB v)), some (.inl (iI k))] [] τ2 = some (zB u, 0, τ2) := by
    intro m
    induction m with
    | zero =>
      intro k v d1 d2 hk
      rw [ez_219_15, hS3 0 (by decide), if_neg (by rw [iI_lt (by omega) (by omega)]; omega)]
      refine ⟨v, ?_⟩
      cases v
      · exact zgd_t rfl
      · exact zgd_t rfl
    | succ m ih =>
      intro k v d1 d2 hk
      have e169 : zev (d + 6) 169 [.inr (.inr (0, 60)), .inl (iI k)] τ2 = _ := zm169 (d := d + 2) hS3 w.1 hF (by omega)
      rw [ez_219_15, hS3 0 (by decide), if_pos (by rw [iI_lt (by omega) (by omega)]; omega)]
      simp only [zBi, e169, zbs, hki1]
      cases v
      · rw [cond_false]
        cases aCr S (fun u => aHold S u - (aBear S u + bif aAbI S b u then (W : Int) else 0)) k
        · rw [cond_false]; exact ih (k + 1) false none none (by omega)
        · rw [cond_true]; exact ih (k + 1) true none none (by omega)
      · rw [cond_true]
        exact ih (k + 1) true none none (by omega)
  obtain ⟨v, k1⟩ := key (S 0).toNat 0 false (some (.inl (iI b))) (some (.inl (iI W))) (by omega)
  have k1 : zrun (zev (d + 6)) zT_219 15 [some (.inr (.inr (0, 60))), some (.inl (iI b)), some (.inl (iI W)), some (.inl 0), some (.inl 0)] [] τ2 = _ := k1
  rw [ez_219]
  simp only [g1, f1, zbs]
  exact ⟨v, τ2, k1, zFr_tt (zFr_i g2 fun _ _ _ q => by omega) (zFr_i f2 fun _ _ _ q => by omega)⟩
theorem zm220 {d : Nat} {S : zS} {σ : zM} {a : Int32} (w : wA S) (hS : mS 61 S σ) : ∃ τ, zev (d + 9) 220 [.inr (.inr (0, 60)), .inl a] σ = some (0, 0, τ) ∧ zFr WM σ τ ∧ mS 61 S τ := by
  have b0 := w.1.1
  have b1 := w.1.2.1
  have r0 := w.2.2.2.1.1
  have r1 := w.2.2.2.1.2.1
  obtain ⟨τ, g1, g2, g3, g4⟩ := zm166c (d := d + 2) hS w
  have g1 : zev (d + 8) 166 [.inr (.inr (0, 60))] σ = _ := g1
  have j2 : ∀ z : Nat, (2 : Int32) * iI z = iI ((2 * z : Nat) : Int) := fun z => by
    show iI 2 * iI z = _
    rw [iI_mul]; congr 1
  have j76 : ∀ z : Nat, (76 : Int32) + iI z = iI ((76 + z : Nat) : Int) := fun z => by
    show iI 76 + iI z = _
    rw [iI_add]; congr 1
  have hm : ∀ (m k : Nat) (a3 : Int32) (d3 d4 d5 : Option zV) (σ : zM), k + m = 201 → 1 ≤ k → mV S σ → ∃ τ, zrun (zev (d + 8)) zT_220 11 [some (.inr (.inr (0, 60))), some (.inl a), some (.inl (iI k)), d3, d4, d5] [] σ = some (0, 0, τ) ∧ zFr W12 σ τ := by
    intro m
    induction m with
    | zero =>
      intro k a3 d3 d4 d5 σ hk _ h
      rw [ez_220_11, if_neg (by show ¬ iI k < iI 201; rw [iI_lt (by omega) (by omega)]; omega)]
      exact ⟨σ, rfl, zFr_r σ⟩
    | succ m ih =>
      intro k a3 d3 d4 d5 σ hk h1 h
      have end112 : ∀ (a3 : Int32) (d4 d5 : Option zV) (σ : zM), mV S σ → ∃ τ, zrun (zev (d + 8)) zT_220 112 [some (.inr (.inr (0, 60))), some (.inl a), some (.inl (iI k)), some (.inl a3), d4, d5] [] σ = some (0, 0, τ) ∧ zFr W12 σ τ := by
        intro a3 d4 d5 σ h
        rw [ez_220_112]
        simp only [hki1]
        split
        · exact ih (k + 1) 0 _ _ _ σ (by omega) (by omega) h
        · split
          · have f0 : zFr W12 σ (zwI (zwI (zwI σ 0 60 13 (iI k)) 0 60 14 (iI k)) 0 60 12 ((zwI (zwI σ 0 60 13 (iI k)) 0 60 14 (iI k)).1 0 60 12 + 1)) := zFr_tt (zFr_tt (zFr_w (by omega)) (zFr_w (by omega))) (zFr_w (by omega))
            obtain ⟨υ, y1, y2⟩ := ih (k + 1) 0 (some (.inl a3)) none none _ (by omega) (by omega) (mV_f h f0)
            exact ⟨υ, y1, zFr_tt f0 y2⟩
          · have f0 : zFr W12 σ (zwI (zwI (zwI σ 0 60 13 (σ.1 0 60 13)) 0 60 14 (iI k)) 0 60 12 ((zwI (zwI σ 0 60 13 (σ.1 0 60 13)) 0 60 14 (iI k)).1 0 60 12 + 1)) := zFr_tt (zFr_tt (zFr_w (by omega)) (zFr_w (by omega))) (zFr_w (by omega))
            obtain ⟨υ, y1, y2⟩ := ih (k + 1) 0 (some (.inl a3)) none none _ (by omega) (by omega) (mV_f h f0)
            exact ⟨υ, y1, zFr_tt f0 y2⟩
      have row : ∀ (n r : Nat) (a3 : Int32) (d5 : Option zV) (σ : zM), r + n = (S 3).toNat → mV S σ → ∃ τ, zrun (zev (d + 8)) zT_220 23 [some (.inr (.inr (0, 60))), some (.inl a), some (.inl (iI k)), some (.inl a3), some (.inl (iI r)), d5] [] σ = some (0, 0, τ) ∧ zFr W12 σ τ := by
        intro n
        induction n with
        | zero =>
          intro r a3 d5 σ hr h
          rw [ez_220_23, h.1 3 (by decide), if_neg (by rw [iI_lt (by omega) (by omega)]; omega)]
          exact end112 a3 _ none σ h
        | succ n ih2 =>
          intro r a3 d5 σ hr h
          have wr := w.2.2.2.1.2.2 r (by omega)
          obtain ⟨b, hb⟩ := zint wr.1
          rw [hb] at wr
          have wb := w.1.2.2 b (by omega)
          have e1 : ∀ {y : zR}, zgd (zin (iI ((76 + 2 * r : Nat) : Int)) 320) y = y := fun {y} => zgd_t (iI_ink (z := ((76 + 2 * r : Nat) : Int)) (k := 76 + 2 * r) rfl (by omega) (by decide))
          have e2 : ∀ {y : zR}, zgd (zin (iI ((76 + 2 * r + 1 : Nat) : Int)) 320) y = y := fun {y} => zgd_t (iI_ink (z := ((76 + 2 * r + 1 : Nat) : Int)) (k := 76 + 2 * r + 1) rfl (by omega) (by decide))
          have n1 : Int32.toNatClampNeg (iI ((76 + 2 * r : Nat) : Int)) = 76 + 2 * r := iI_Nn (by omega)
          rw [ez_220_23, h.1 3 (by decide), if_pos (by rw [iI_lt (by omega) (by omega)]; omega)]
          by_cases q0 : a3 = 0
          · rw [if_pos q0]
            exact end112 a3 _ none σ h
          rw [if_neg q0]
          obtain ⟨v, τ, y1, y2⟩ := zm219 (d := d + 1) (b := b) (W := k) w h (by omega) (by omega)
          have y1 : zev (d + 8) 219 [.inr (.inr (0, 60)), .inl (iI b), .inl (iI k)] σ = _ := y1
          have e57 : zev (d + 8) 157 [.inr (.inr (0, 60)), .inl (iI b)] σ = some (zB (aBrk S b), 0, σ) := zm157 (d := d + 5) h.1 (by omega) (by omega)
          simp only [j2, j76, e1, n1, h.1 (76 + 2 * r) (by omega), hb, e57, zbs, zBi, y1, hki1, e2]
          have go : ∀ (a3 : Int32) (d5 : Option zV), ∃ τ', zrun (zev (d + 8)) zT_220 23 [some (.inr (.inr (0, 60))), some (.inl a), some (.inl (iI k)), some (.inl a3), some (.inl (iI ((r + 1 : Nat) : Int))), d5] [] τ = some (0, 0, τ') ∧ zFr W12 σ τ' := fun a3 d5 => by
            obtain ⟨υ, x1, x2⟩ := ih2 (r + 1) a3 d5 τ (by omega) (mV_f h y2)
            exact ⟨υ, x1, zFr_tt y2 x2⟩
          split
          · exact ih2 (r + 1) _ _ σ (by omega) h
          · cases aBrk S b
            · rw [cond_false]
              cases v <;> simp only [cond_true, cond_false] <;> repeat' split
              all_goals exact go _ _
            · rw [cond_true]
              exact ih2 (r + 1) _ _ σ (by omega) h
      rw [ez_220_11, if_pos (by show iI k < iI 201; rw [iI_lt (by omega) (by omega)]; omega)]
      exact row (S 3).toNat 0 1 none σ (by omega) h
  have f0 : zFr W12 τ (zwI τ 0 60 12 0) := zFr_w (by omega)
  obtain ⟨υ, y1, y2⟩ := hm 200 1 0 none none none (zwI τ 0 60 12 0) (by omega) (by omega) (mV_f ⟨g3, g4⟩ f0)
  have y1 : zrun (zev (d + 8)) zT_220 11 [some (.inr (.inr (0, 60))), some (.inl a), some (.inl 1), none, none, none] [] (zwI τ 0 60 12 0) = _ := y1
  rw [ez_220]
  simp only [g1, zbs]
  have f2 := zFr_tt f0 y2
  exact ⟨υ, y1, zFr_tt g2 (zFr_i f2 fun _ _ _ q => by omega), mS_f g3 (zFr_f f2 (fun i => by omega))⟩
theorem zC0q {J J2 : Nat} {as : List zV} {x : zXx} (w : WX x) (h1 : ∀ σ, RC x σ → ∃ v τ, zev 64 J (.inr (.inr (0, 30)) :: as) σ = some (v, 0, τ) ∧ zFr WC σ τ) (h2 : ∀ σ, RM x σ → ∃ v τ, zev 64 J2 (.inr (.inr (0, 60)) :: as) σ = some (v, 0, τ) ∧ zFr WM σ τ ∧ mS 61 x.1 τ) : zCall0 J J2 as x := by
  refine ⟨x, w, fun σ h => ?_, fun σ h => ?_⟩
  · obtain ⟨v, τ, a, b⟩ := h1 σ h
    exact ⟨v, 0, τ, a, RC_s h b⟩
  · obtain ⟨v, τ, a, b, c⟩ := h2 σ h
    exact ⟨v, 0, τ, a, RM_s h b c⟩
theorem zx_117s {x : zXx} (w : WX x) (c : Int) (hc : zrn c) : zCall0 117 221 [.inl (iI c)] x := by
  have c1 : ∀ {σ : zM}, zev 63 141 [.inl (iI c), .inl 0, .inl 2] σ = some (zB (decide (0 ≤ c ∧ c ≤ 2)), 0, σ) := zc141 (l := 0) (h := 2) hc (by decide) (by decide)
  have m1 : ∀ {σ : zM}, zev 63 149 [.inr (.inl (Int32.toInt64 (iI c))), .inr (.inl 0), .inr (.inl 2)] σ = some (zB (decide (0 ≤ c ∧ c ≤ 2)), 0, σ) := zm149k (l := 0) (h := 2) hc (by decide) (by decide)
  refine zC0q w (fun σ h => ?_) (fun σ h => ?_)
  · obtain ⟨τ, g1, g2, g3, g4, -⟩ := zc27k (d := 58) h.1 w.1
    have g1 : zev 63 27 [.inr (.inr (0, 0))] σ = _ := g1
    obtain ⟨τ2, f1, f2⟩ := zc42s (d := 58) (a := -9) w.1 ⟨g3, g4⟩
    have f1 : zev 63 42 [.inr (.inr (0, 19)), .inr (.inr (0, 0)), .inl (-9)] τ = _ := f1
    obtain ⟨v, e44⟩ := zc44s (d := 61) (σ := τ2)
    have e44 : zev 63 44 [.inr (.inr (0, 19))] τ2 = _ := e44
    have fr : zFr WC σ τ2 := zFr_tt (zFr_i g2 fun _ _ _ q => by omega) (zFr_i f2 fun _ _ _ q => by omega)
    rw [ez_117]
    simp only [c1, zbs, zBi, g1, f1, e44]
    cases decide (0 ≤ c ∧ c ≤ 2)
    · exact ⟨_, σ, rfl, zFr_r σ⟩
    · rw [cond_true]
      repeat' split
      all_goals exact ⟨_, τ2, rfl, fr⟩
  · obtain ⟨τ, g1, g2, g3⟩ := zm220 (d := 54) (a := -1) w.1 h.1
    have g1 : zev 63 220 [.inr (.inr (0, 60)), .inl (-1)] σ = _ := g1
    rw [ez_221]
    simp only [m1, zbs, zBi, g1]
    cases decide (0 ≤ c ∧ c ≤ 2)
    · exact ⟨_, σ, rfl, zFr_r σ, h.1⟩
    · rw [cond_true]
      repeat' split
      all_goals exact ⟨_, τ, rfl, g2, g3⟩
theorem zx_118s {x : zXx} (w : WX x) : zCall0 118 222 [] x := by
  have r0 := w.1.2.2.2.1.1
  have r1 := w.1.2.2.2.1.2.1
  refine zC0q w (fun σ h => ?_) (fun σ h => ?_)
  · obtain ⟨τ, g1, g2, g3, g4, -⟩ := zc27k (d := 58) h.1 w.1
    have g1 : zev 63 27 [.inr (.inr (0, 0))] σ = _ := g1
    obtain ⟨τ2, f1, f2⟩ := zc42s (d := 58) (a := -9) w.1 ⟨g3, g4⟩
    have f1 : zev 63 42 [.inr (.inr (0, 19)), .inr (.inr (0, 0)), .inl (-9)] τ = _ := f1
    obtain ⟨v, e44⟩ := zc44s (d := 61) (σ := τ2)
    have e44 : zev 63 44 [.inr (.inr (0, 19))] τ2 = _ := e44
    have fr : zFr WC σ τ2 := zFr_tt (zFr_i g2 fun _ _ _ q => by omega) (zFr_i f2 fun _ _ _ q => by omega)
    have key : ∀ (m k : Nat) (τ : zM), k + m = (x.1 3).toNat → cV x.1 τ → zFr WC σ τ → ∃ v υ, zrun (zev 63) zT_118 41 [some (.inr (.inr (0, 30))), some (.inl (iI k))] [] τ = some (v, 0, υ) ∧ zFr WC σ υ := by
      intro m
      induction m with
      | zero =>
        intro k τ hk h f
        rw [ez_118_41, h.1.2.2.2.2.1.1, if_neg (by rw [iI_lt (by omega) (by omega)]; omega)]
        exact ⟨_, τ, rfl, f⟩
      | succ m ih =>
        intro k τ hk h f
        obtain ⟨τ2, f1, f2⟩ := zc42s (d := 58) (a := iI k) w.1 h
        have f1 : zev 63 42 [.inr (.inr (0, 19)), .inr (.inr (0, 0)), .inl (iI k)] τ = _ := f1
        obtain ⟨v, e44⟩ := zc44s (d := 61) (σ := τ2)
        have e44 : zev 63 44 [.inr (.inr (0, 19))] τ2 = _ := e44
        have fr : zFr WC σ τ2 := zFr_tt f (zFr_i f2 fun _ _ _ q => by omega)
        rw [ez_118_41, h.1.2.2.2.2.1.1, if_pos (by rw [iI_lt (by omega) (by omega)]; omega)]
        simp only [f1, e44, zbs, hki1]
        split
        · exact ⟨_, τ2, rfl, fr⟩
        · exact ih (k + 1) τ2 (by omega) (cV_f h f2) fr
    obtain ⟨v2, υ, y1, y2⟩ := key (x.1 3).toNat 0 τ2 (by omega) (cV_f ⟨g3, g4⟩ f2) fr
    rw [ez_118]
    simp only [g1, f1, e44, zbs]
    split
    · exact ⟨_, τ2, rfl, fr⟩
    · exact ⟨v2, υ, y1, y2⟩
  · obtain ⟨τ, g1, g2, g3⟩ := zm220 (d := 54) (a := -1) w.1 h.1
    have g1 : zev 63 220 [.inr (.inr (0, 60)), .inl (-1)] σ = _ := g1
    have key : ∀ (m k : Nat) (a1 : Int32) (τ : zM), k + m = (x.1 3).toNat → mS 61 x.1 τ → zFr WM σ τ → ∃ v υ, zrun (zev 63) zT_222 20 [some (.inr (.inr (0, 60))), some (.inl a1), some (.inl (iI k))] [] τ = some (v, 0, υ) ∧ zFr WM σ υ ∧ mS 61 x.1 υ := by
      intro m
      induction m with
      | zero =>
        intro k a1 τ hk hS f
        rw [ez_222_20, hS 3 (by decide), if_neg (by rw [iI_lt (by omega) (by omega)]; omega)]
        exact ⟨_, τ, rfl, f, hS⟩
      | succ m ih =>
        intro k a1 τ hk hS f
        obtain ⟨τ2, f1, f2, f3⟩ := zm220 (d := 54) (a := iI k) w.1 hS
        have f1 : zev 63 220 [.inr (.inr (0, 60)), .inl (iI k)] τ = _ := f1
        rw [ez_222_20, hS 3 (by decide), if_pos (by rw [iI_lt (by omega) (by omega)]; omega)]
        simp only [f1, zbs, hki1]
        split
        · exact ⟨_, τ, rfl, f, hS⟩
        · split
          · exact ⟨_, τ2, rfl, zFr_tt f f2, f3⟩
          · exact ih (k + 1) a1 τ2 (by omega) f3 (zFr_tt f f2)
    rw [ez_222]
    simp only [g1, zbs]
    split
    · exact key (x.1 3).toNat 0 1 τ (by omega) g3 g2
    · exact key (x.1 3).toNat 0 0 τ (by omega) g3 g2
