theorem zc30 {d g b : Nat} {S : zS} {σ : zM} (hA : cA g S σ) (wa : wA S) (hb : b < (S 0).toNat) : ∃ τ, zev (d + 5) 30 [.inr (.inr (g, 0)), .inl (iI b)] σ = some (if aBrk S b = true then 2 else if aHold S b < aBear S b then 1 else 0, 0, τ) ∧ zFr (Ws g) σ τ := by
  have w1 := wa.1.2.1
  have h1 := aBear_b wa.1 wa.2.1 wa.2.2.1 hb
  have h2 := aHold_b wa.1 wa.2.1 wa.2.2.2.2.1 hb
  rw [ez_30]
  simp only [zc14 (d := d + 2) (z := b) hA.1 hA.2.1 wa.1 (show zrn (b : Int) by omega), zbs, zBi, Int.toNat_natCast, decide_eq_true (show (0 : Int) ≤ b ∧ (b : Int) < S 0 by omega), Bool.true_and]
  cases hk : aBrk S b
  · obtain ⟨τ, c1, c2⟩ := zc16 (d := d) hA.1 hA.2.2.1 hA.2.2.2.2.2.1 wa.1 wa.2.1 wa.2.2.2.2.1 hb
    simp only [Bool.not_false, cond_true, zc26 (d := d + 1) hA.1 hA.2.2.1 hA.2.2.2.1 wa.1 wa.2.1 wa.2.2.1 hb, zbs, c1, iI_lt (show zrn (aHold S b) by omega) (show zrn (aBear S b) by omega)]
    refine ⟨τ, ?_, zFr_i c2 fun _ _ _ q => ⟨q.1, by omega⟩⟩
    by_cases q : aHold S b < aBear S b
    · rw [if_pos q, if_neg (show ¬ (false = true) by decide), if_pos q]
    · rw [if_neg q, if_neg (show ¬ (false = true) by decide), if_neg q]
  · exact ⟨σ, rfl, zFr_r σ⟩
theorem zx_85 {x : zXx} (w : WX x) (z a : Int) (hz : zrn z) (ha : zrn a) : zCall 85 173 [.inl (iI z), .inl (iI a)] x := by
  have wb := w.1.1
  have b0 := wb.1
  have b1 := wb.2.1
  have m6 : ∀ {σ : zM}, zev 63 149 [.inr (.inl (Int32.toInt64 (iI a))), .inr (.inl 0), .inr (.inl 6)] σ = some (zB (decide (0 ≤ a ∧ a ≤ 6)), 0, σ) := zm149k (l := 0) (h := 6) ha (by decide) (by decide)
  by_cases q : 0 ≤ z ∧ z < x.1 0
  case neg =>
    refine zCq (-1) w (fun σ h => ?_) (fun σ h => ?_)
    · rw [ez_85]
      simp only [zc13 h.1.1.1 ⟨b0, b1⟩ hz, zbs, zBi, decide_eq_false q, cond_false]
      exact ⟨σ, rfl, zFr_r σ⟩
    · rw [ez_173]
      simp only [zm150 (d := 61) h.1 ⟨b0, b1⟩ hz, zbs, zBi, decide_eq_false q, cond_false]
      exact ⟨σ, rfl, zFr_r σ, h.1⟩
  case pos =>
    obtain ⟨b, rfl⟩ := zint q.1
    have hb : b < (x.1 0).toNat := by omega
    have w2 := wb.2.2 b hb
    have hpr : zrn (aPar x.1 b) := by unfold aPar; omega
    by_cases qa : 0 ≤ a ∧ a ≤ 6
    case neg =>
      refine zCq (-1) w (fun σ h => ?_) (fun σ h => ?_)
      · have n0 : ∀ k : Int, zrn k → (0 ≤ k ∧ k ≤ 6) → (iI a = iI k) = False := fun k hk hk2 => by rw [iI_eq ha hk]; exact eq_false (by omega)
        have n0' : (iI a = 0) = False := n0 0 (by decide) (by decide)
        have n1' : (iI a = 1) = False := n0 1 (by decide) (by decide)
        have n2' : (iI a = 2) = False := n0 2 (by decide) (by decide)
        have n3' : (iI a = 3) = False := n0 3 (by decide) (by decide)
        have n4' : (iI a = 4) = False := n0 4 (by decide) (by decide)
        have n5' : (iI a = 5) = False := n0 5 (by decide) (by decide)
        have n6' : (iI a = 6) = False := n0 6 (by decide) (by decide)
        rw [ez_85]
        simp only [zc13 h.1.1.1 ⟨b0, b1⟩ hz, zbs, zBi, decide_eq_true q, cond_true, n0', n1', n2', n3', n4', n5', n6', if_false]
        exact ⟨σ, rfl, zFr_r σ⟩
      · rw [ez_173]
        simp only [zm150 (d := 61) h.1 ⟨b0, b1⟩ hz, zbs, zBi, decide_eq_true q, cond_true, m6, decide_eq_false qa, cond_false]
        exact ⟨σ, rfl, zFr_r σ, h.1⟩
    case pos =>
      have hg : ∀ {y : zR}, zgd (zin (iI b) 9) y = y := fun {y} => zgd_t (iI_ink (z := b) (k := b) rfl (show b < 9 by omega) (by decide))
      have hN : Int32.toNatClampNeg (iI b) = b := iI_Nn (by omega)
      have hm : ∀ σ, RM x σ → ∃ τ, zev 63 172 [.inr (.inr (0, 60))] σ = some (0, 0, τ) ∧ zFr WM σ τ ∧ mS 61 x.1 τ ∧ mR 65 x.1 (aHold x.1) τ ∧ mR 66 x.1 (aBear x.1) τ := fun σ h => zm172 (d := 56) h.1 w.1
      rcases (by omega : a = 0 ∨ a = 1 ∨ a = 2 ∨ a = 3 ∨ a = 4 ∨ a = 5 ∨ a = 6) with rfl | rfl | rfl | rfl | rfl | rfl | rfl
      · refine zCq (iI (x.1 (7 + 5 * b))) w (fun σ h => ?_) (fun σ h => ?_)
        · rw [ez_85]
          simp only [zc13 h.1.1.1 ⟨b0, b1⟩ hz, zbs, zBi, decide_eq_true q, cond_true, hg, hN, (h.1.1.2 b hb).1]
          exact ⟨σ, rfl, zFr_r σ⟩
        · obtain ⟨τ, c1, c2, c3, c4, c5⟩ := hm σ h
          have e := zm156 (d := 61) (b := b) (w := 0) c3 (by omega)
          have e : zev 63 156 [.inr (.inr (0, 60)), .inl (iI b), .inl (iI 0)] τ = some (iI (x.1 (7 + 5 * b)), 0, τ) := e
          rw [ez_173]
          simp only [zm150 (d := 61) h.1 ⟨b0, b1⟩ hz, zbs, zBi, decide_eq_true q, cond_true, m6, decide_eq_true qa, c1]
          refine ⟨τ, ?_, c2, c3⟩
          rw [if_neg (by decide), if_neg (by decide), if_neg (by decide), if_neg (by decide), if_neg (by decide), if_neg (by decide), e]
          rfl
      · refine zCq (iI (cE (aPar x.1 b))) w (fun σ h => ?_) (fun σ h => ?_)
        · rw [ez_85]
          simp only [zc13 h.1.1.1 ⟨b0, b1⟩ hz, zbs, zBi, decide_eq_true q, cond_true, hg, hN, (h.1.1.2 b hb).2.1]
          exact ⟨σ, rfl, zFr_r σ⟩
        · obtain ⟨τ, c1, c2, c3, c4, c5⟩ := hm σ h
          rw [ez_173]
          simp only [zm150 (d := 61) h.1 ⟨b0, b1⟩ hz, zbs, zBi, decide_eq_true q, cond_true, m6, decide_eq_true qa, c1, zm158 (d := 60) c3 (show b < 9 by omega), iI_lt0 hpr]
          refine ⟨τ, ?_, c2, c3⟩
          rw [if_pos (show iI 1 = 1 from rfl)]
          unfold cE
          by_cases qp : aPar x.1 b < 0
          · rw [if_pos qp, if_pos qp]; rfl
          · rw [if_neg qp, if_neg qp]
      · refine zCq (iI (x.1 (9 + 5 * b))) w (fun σ h => ?_) (fun σ h => ?_)
        · rw [ez_85]
          simp only [zc13 h.1.1.1 ⟨b0, b1⟩ hz, zbs, zBi, decide_eq_true q, cond_true, hg, hN, (h.1.1.2 b hb).2.2.1]
          exact ⟨σ, rfl, zFr_r σ⟩
        · obtain ⟨τ, c1, c2, c3, c4, c5⟩ := hm σ h
          have e := zm156 (d := 61) (b := b) (w := 2) c3 (by omega)
          rw [show 7 + 5 * b + 2 = 9 + 5 * b by omega] at e
          have e : zev 63 156 [.inr (.inr (0, 60)), .inl (iI b), .inl (iI 2)] τ = some (iI (x.1 (9 + 5 * b)), 0, τ) := e
          rw [ez_173]
          simp only [zm150 (d := 61) h.1 ⟨b0, b1⟩ hz, zbs, zBi, decide_eq_true q, cond_true, m6, decide_eq_true qa, c1]
          refine ⟨τ, ?_, c2, c3⟩
          rw [if_neg (by decide), if_pos (show iI 2 = 2 from rfl), e]
          rfl
      · refine zCq (iI (x.1 (10 + 5 * b))) w (fun σ h => ?_) (fun σ h => ?_)
        · rw [ez_85]
          simp only [zc13 h.1.1.1 ⟨b0, b1⟩ hz, zbs, zBi, decide_eq_true q, cond_true, hg, hN, (h.1.1.2 b hb).2.2.2.1]
          exact ⟨σ, rfl, zFr_r σ⟩
        · obtain ⟨τ, c1, c2, c3, c4, c5⟩ := hm σ h
          have e := zm156 (d := 61) (b := b) (w := 3) c3 (by omega)
          rw [show 7 + 5 * b + 3 = 10 + 5 * b by omega] at e
          have e : zev 63 156 [.inr (.inr (0, 60)), .inl (iI b), .inl (iI 3)] τ = some (iI (x.1 (10 + 5 * b)), 0, τ) := e
          rw [ez_173]
          simp only [zm150 (d := 61) h.1 ⟨b0, b1⟩ hz, zbs, zBi, decide_eq_true q, cond_true, m6, decide_eq_true qa, c1]
          refine ⟨τ, ?_, c2, c3⟩
          rw [if_neg (by decide), if_neg (by decide), if_pos (show iI 3 = 3 from rfl), e]
          rfl
      · refine zCq (iI (aHold x.1 b)) w (fun σ h => ?_) (fun σ h => ?_)
        · obtain ⟨τ, c1, c2⟩ := zc16 (d := 59) h.1.1 h.1.2.2.1 h.1.2.2.2.2.2.1 w.1.1 w.1.2.1 w.1.2.2.2.2.1 hb
          rw [ez_85]
          simp only [zc13 h.1.1.1 ⟨b0, b1⟩ hz, zbs, zBi, decide_eq_true q, cond_true, c1]
          exact ⟨τ, rfl, zFr_i c2 fun _ _ _ q => by omega⟩
        · obtain ⟨τ, c1, c2, c3, c4, c5⟩ := hm σ h
          rw [ez_173]
          simp only [zm150 (d := 61) h.1 ⟨b0, b1⟩ hz, zbs, zBi, decide_eq_true q, cond_true, m6, decide_eq_true qa, c1, hg, hN, c4 b hb]
          exact ⟨τ, rfl, c2, c3⟩
      · refine zCq (iI (aBear x.1 b)) w (fun σ h => ?_) (fun σ h => ?_)
        · rw [ez_85]
          simp only [zc13 h.1.1.1 ⟨b0, b1⟩ hz, zbs, zBi, decide_eq_true q, cond_true, zc26 (d := 60) h.1.1 h.1.2.2.1 h.1.2.2.2.1 w.1.1 w.1.2.1 w.1.2.2.1 hb]
          exact ⟨σ, rfl, zFr_r σ⟩
        · obtain ⟨τ, c1, c2, c3, c4, c5⟩ := hm σ h
          rw [ez_173]
          simp only [zm150 (d := 61) h.1 ⟨b0, b1⟩ hz, zbs, zBi, decide_eq_true q, cond_true, m6, decide_eq_true qa, c1, hg, hN, c5 b hb]
          exact ⟨τ, rfl, c2, c3⟩
      · refine zCq (if aBrk x.1 b = true then 2 else if aHold x.1 b < aBear x.1 b then 1 else 0) w (fun σ h => ?_) (fun σ h => ?_)
        · obtain ⟨τ, c1, c2⟩ := zc30 (d := 58) h.1 w.1 hb
          rw [ez_85]
          simp only [zc13 h.1.1.1 ⟨b0, b1⟩ hz, zbs, zBi, decide_eq_true q, cond_true, c1]
          exact ⟨τ, rfl, zFr_WC0 c2⟩
        · obtain ⟨τ, c1, c2, c3, c4, c5⟩ := hm σ h
          rw [ez_173]
          simp only [zm150 (d := 61) h.1 ⟨b0, b1⟩ hz, zbs, zBi, decide_eq_true q, cond_true, m6, decide_eq_true qa, c1, zm157 (d := 60) c3 (show b < 9 by omega) (show 0 ≤ x.1 (11 + 5 * b) ∧ x.1 (11 + 5 * b) ≤ 1 by omega), zm169 (d := 59) c3 w.1.1 (mF_sp w.1 c4 c5) hb]
          refine ⟨τ, ?_, c2, c3⟩
          rw [if_neg (by decide), if_neg (by decide), if_neg (by decide), if_neg (by decide), if_neg (by decide), if_pos (show iI 6 = 6 from rfl)]
          unfold aCr aSp
          cases aBrk x.1 b
          · rw [cond_false, Bool.not_false, Bool.and_true, if_neg (by decide)]
            by_cases qc : aHold x.1 b < aBear x.1 b
            · rw [if_pos qc, decide_eq_true (by omega)]; rfl
            · rw [if_neg qc, decide_eq_false (by omega)]; rfl
          · rfl
theorem zx_92 {x : zXx} (w : WX x) (z a : Int) (hz : zrn z) (ha : zrn a) : zCall 92 183 [.inl (iI z), .inl (iI a)] x := by
  have b0 := w.1.1.1
  have b1 := w.1.1.2.1
  have wp := w.1.2.2.1
  have p0 := wp.1
  have p1 := wp.2.1
  have m2 : ∀ {σ : zM}, zev 63 149 [.inr (.inl (Int32.toInt64 (iI a))), .inr (.inl 0), .inr (.inl 2)] σ = some (zB (decide (0 ≤ a ∧ a ≤ 2)), 0, σ) := zm149k (l := 0) (h := 2) ha (by decide) (by decide)
  by_cases q : 0 ≤ z ∧ z < x.1 2
  case neg =>
    refine zCq (-1) w (fun σ h => ?_) (fun σ h => ?_)
    · rw [ez_92]
      simp only [zc37 h.1.2.2.2.1.1 ⟨p0, p1⟩ hz, zbs, zBi, decide_eq_false q, cond_false]
      exact ⟨σ, rfl, zFr_r σ⟩
    · rw [ez_183]
      simp only [zm151 (d := 61) h.1 ⟨p0, p1⟩ hz, zbs, zBi, decide_eq_false q, cond_false]
      exact ⟨σ, rfl, zFr_r σ, h.1⟩
  case pos =>
    obtain ⟨p, rfl⟩ := zint q.1
    have hp : p < (x.1 2).toNat := by omega
    have hr := aSeat_r wp hp
    by_cases qa : 0 ≤ a ∧ a ≤ 2
    case neg =>
      refine zCq (-1) w (fun σ h => ?_) (fun σ h => ?_)
      · have n0 : ∀ k : Int, zrn k → (0 ≤ k ∧ k ≤ 2) → (iI a = iI k) = False := fun k hk hk2 => by rw [iI_eq ha hk]; exact eq_false (by omega)
        have n0' : (iI a = 0) = False := n0 0 (by decide) (by decide)
        have n1' : (iI a = 1) = False := n0 1 (by decide) (by decide)
        have n2' : (iI a = 2) = False := n0 2 (by decide) (by decide)
        rw [ez_92]
        simp only [zc37 h.1.2.2.2.1.1 ⟨p0, p1⟩ hz, zbs, zBi, decide_eq_true q, cond_true, n0', n1', n2', if_false]
        exact ⟨σ, rfl, zFr_r σ⟩
      · rw [ez_183]
        simp only [zm151 (d := 61) h.1 ⟨p0, p1⟩ hz, zbs, zBi, decide_eq_true q, cond_true, m2, decide_eq_false qa, cond_false]
        exact ⟨σ, rfl, zFr_r σ, h.1⟩
    case pos =>
      have hg : ∀ {y : zR}, zgd (zin (iI p) 8) y = y := fun {y} => zgd_t (iI_ink (z := p) (k := p) rfl (show p < 8 by omega) (by decide))
      have hN : Int32.toNatClampNeg (iI p) = p := iI_Nn (by omega)
      rcases (by omega : a = 0 ∨ a = 1 ∨ a = 2) with rfl | rfl | rfl
      · refine zCq (iI (x.1 (52 + 3 * p))) w (fun σ h => ?_) (fun σ h => ?_)
        · rw [ez_92]
          simp only [zc37 h.1.2.2.2.1.1 ⟨p0, p1⟩ hz, zbs, zBi, decide_eq_true q, cond_true, hg, hN, (h.1.2.2.2.1.2 p hp).1]
          exact ⟨σ, rfl, zFr_r σ⟩
        · have e := zm178 (d := 61) (p := p) (w := 0) h.1 (by omega)
          have e : zev 63 178 [.inr (.inr (0, 60)), .inl (iI p), .inl (iI 0)] σ = some (iI (x.1 (52 + 3 * p)), 0, σ) := e
          rw [ez_183]
          simp only [zm151 (d := 61) h.1 ⟨p0, p1⟩ hz, zbs, zBi, decide_eq_true q, cond_true, m2, decide_eq_true qa]
          refine ⟨σ, ?_, zFr_r σ, h.1⟩
          rw [if_pos (by decide), e]; rfl
      · refine zCq (iI (x.1 (53 + 3 * p))) w (fun σ h => ?_) (fun σ h => ?_)
        · rw [ez_92]
          simp only [zc37 h.1.2.2.2.1.1 ⟨p0, p1⟩ hz, zbs, zBi, decide_eq_true q, cond_true, hg, hN, (h.1.2.2.2.1.2 p hp).2.1]
          exact ⟨σ, rfl, zFr_r σ⟩
        · have e := zm178 (d := 61) (p := p) (w := 1) h.1 (by omega)
          rw [show 52 + 3 * p + 1 = 53 + 3 * p by omega] at e
          have e : zev 63 178 [.inr (.inr (0, 60)), .inl (iI p), .inl (iI 1)] σ = some (iI (x.1 (53 + 3 * p)), 0, σ) := e
          rw [ez_183]
          simp only [zm151 (d := 61) h.1 ⟨p0, p1⟩ hz, zbs, zBi, decide_eq_true q, cond_true, m2, decide_eq_true qa]
          refine ⟨σ, ?_, zFr_r σ, h.1⟩
          rw [if_pos (by decide), e]; rfl
      · refine zCq (iI (cE (aSeat x.1 p))) w (fun σ h => ?_) (fun σ h => ?_)
        · rw [ez_92]
          simp only [zc37 h.1.2.2.2.1.1 ⟨p0, p1⟩ hz, zbs, zBi, decide_eq_true q, cond_true, hg, hN, (h.1.2.2.2.1.2 p hp).2.2]
          exact ⟨σ, rfl, zFr_r σ⟩
        · rw [ez_183]
          simp only [zm151 (d := 61) h.1 ⟨p0, p1⟩ hz, zbs, zBi, decide_eq_true q, cond_true, m2, decide_eq_true qa, zm182 (d := 59) h.1 (show p < 8 by omega) ⟨hr.1, by omega⟩]
          refine ⟨σ, ?_, zFr_r σ, h.1⟩
          rw [if_neg (by decide)]
theorem zc45 {d : Nat} {k a : Int} {r : zXr} {σ : zM} (h : σ.1 0 38 0 = iI r.1) (hr : r.1 ≤ 9) (hk : zrn k) (ha : zrn a) : zev (d + 1) 45 [.inr (.inr (0, 38)), .inl (iI k), .inl (iI a)] σ = some (zB (decide ((0 ≤ k ∧ k < r.1) ∧ 0 ≤ a ∧ a < 3)), 0, σ) := by
  have e3 : (iI a < 3) = (a < 3) := iI_lt (b := 3) ha (by decide)
  rw [ez_45]
  simp only [h, iI_lt0 hk, iI_lt0 ha, iI_lt hk (show zrn (r.1 : Int) by omega), e3, zg30, zg31]
  by_cases q1 : k < 0
  · rw [if_pos q1, decide_eq_false (by omega)]; rfl
  · by_cases q2 : k < r.1
    · by_cases q3 : a < 0
      · rw [if_neg q1, if_pos q2, if_pos q3, decide_eq_false (by omega)]; rfl
      · by_cases q4 : a < 3
        · rw [if_neg q1, if_pos q2, if_neg q3, if_pos q4, decide_eq_true (by omega)]; rfl
        · rw [if_neg q1, if_pos q2, if_neg q3, if_neg q4, decide_eq_false (by omega)]; rfl
    · rw [if_neg q1, if_neg q2, decide_eq_false (by omega)]; rfl
theorem zm227 {d : Nat} {k a : Int} {r : zXr} {σ : zM} (h : σ.1 0 60 16 = iI r.1) (hr : r.1 ≤ 9) (hk : zrn k) (ha : zrn a) : zev (d + 2) 227 [.inr (.inr (0, 60)), .inl (iI k), .inl (iI a)] σ = some (zB (decide ((0 ≤ k ∧ k < r.1) ∧ 0 ≤ a ∧ a < 3)), 0, σ) := by
  have m2 : ∀ {σ : zM}, zev (d + 1) 149 [.inr (.inl (Int32.toInt64 (iI a))), .inr (.inl 0), .inr (.inl 2)] σ = some (zB (decide (0 ≤ a ∧ a ≤ 2)), 0, σ) := zm149k (l := 0) (h := 2) ha (by decide) (by decide)
  have m1 : ∀ {σ : zM}, zev (d + 1) 149 [.inr (.inl (Int32.toInt64 (iI k))), .inr (.inl 0), .inr (.inl (Int32.toInt64 (iI ((r.1 : Int) - 1))))] σ = some (zB (decide (0 ≤ k ∧ k ≤ (r.1 : Int) - 1)), 0, σ) := fun {σ} => by
    rw [zm149 hk, zt64 (by omega)]
    rfl
  rw [ez_227]
  simp only [h, iI_s1, m1, m2, zbs, zBi, zg30, zg31]
  by_cases q1 : 0 ≤ k ∧ k ≤ (r.1 : Int) - 1
  · by_cases q2 : 0 ≤ a ∧ a ≤ 2
    · rw [decide_eq_true q1, decide_eq_true q2, decide_eq_true (by omega)]; rfl
    · rw [decide_eq_true q1, decide_eq_false q2, decide_eq_false (by omega)]; rfl
  · rw [decide_eq_false q1, cond_false, decide_eq_false (by omega)]; rfl
theorem zx_125 {x : zXx} (w : WX x) (k a : Int) (hk : zrn k) (ha : zrn a) : zCall 125 228 [.inl (iI k), .inl (iI a)] x := by
  have wr := w.2.2.2.1
  by_cases q : (0 ≤ k ∧ k < (xr x).1) ∧ 0 ≤ a ∧ a < 3
  · obtain ⟨n, rfl⟩ := zint q.1.1
    obtain ⟨m, rfl⟩ := zint q.2.1
    have hn : n < (xr x).1 := by omega
    have hm : m < 3 := by omega
    have hn9 := wr.1
    refine zCq (iI ((xr x).2 n m)) w (fun σ h => ?_) (fun σ h => ?_)
    · rw [ez_125]
      simp only [zc45 h.2.2.2.1.1 wr.1 hk ha, zbs, zBi, decide_eq_true q, cond_true, zgd_t (iI_ink (z := n) (k := n) rfl (show n < 9 by omega) (by decide)), zgd_t (iI_ink (z := m) (k := m) rfl hm (by decide)), iI_Nn (show n ≤ 2147483647 by omega), iI_Nn (show m ≤ 2147483647 by omega), h.2.2.2.1.2 n m hn hm]
      exact ⟨σ, rfl, zFr_r σ⟩
    · have i0 : (3 : Int32) * iI n + iI m = iI ((3 * n + m : Nat) : Int) := by
        show iI 3 * iI n + iI m = _
        rw [iI_mul, iI_add]; congr 1
      rw [ez_228]
      simp only [zm227 (d := 61) h.2.2.2.1.1 wr.1 hk ha, zbs, zBi, decide_eq_true q, cond_true, i0, zgd_t (iI_ink (z := ((3 * n + m : Nat) : Int)) (k := 3 * n + m) rfl (show 3 * n + m < 27 by omega) (by decide)), iI_Nn (show 3 * n + m ≤ 2147483647 by omega), h.2.2.2.1.2 n m hn hm]
      exact ⟨σ, rfl, zFr_r σ, h.1⟩
  · refine zCq (-9) w (fun σ h => ?_) (fun σ h => ?_)
    · rw [ez_125]
      simp only [zc45 h.2.2.2.1.1 wr.1 hk ha, zbs, zBi, decide_eq_false q, cond_false]
      exact ⟨σ, rfl, zFr_r σ⟩
    · rw [ez_228]
      simp only [zm227 (d := 61) h.2.2.2.1.1 wr.1 hk ha, zbs, zBi, decide_eq_false q, cond_false]
      exact ⟨σ, rfl, zFr_r σ, h.1⟩
theorem zx_126 {x : zXx} (w : WX x) (k a v : Int) (hk : zrn k) (ha : zrn a) (hv : zrn v) : zCall 126 229 [.inl (iI k), .inl (iI a), .inl (iI v)] x := by
  have wr := w.2.2.2.1
  by_cases q : (0 ≤ k ∧ k < (xr x).1) ∧ 0 ≤ a ∧ a < 3
  · obtain ⟨n, rfl⟩ := zint q.1.1
    obtain ⟨m, rfl⟩ := zint q.2.1
    have hn : n < (xr x).1 := by omega
    have hm : m < 3 := by omega
    have hn9 := wr.1
    refine ⟨xsr x ((xr x).1, fun j c => if j = n ∧ c = m then v else (xr x).2 j c), iI ((xr x).2 n m), ⟨w.1, w.2.1, w.2.2.1, ⟨wr.1, fun j c hj hc => ?_⟩, w.2.2.2.2⟩, fun σ h => ?_, fun σ h => ?_⟩
    · show zrn (if j = n ∧ c = m then v else (xr x).2 j c)
      split
      · exact hv
      · exact wr.2 j c hj hc
    · have e47 : ∀ {σ : zM}, zev 63 147 [.inr (.inr (n, 40)), .inl (iI m), .inl (iI v)] σ = some (σ.1 n 40 m, 0, zwI σ n 40 m (iI v)) := fun {σ} => by
        rw [ez_147k40]
        simp only [zgd_t (iI_ink (z := m) (k := m) rfl hm (by decide)), iI_Nn (show m ≤ 2147483647 by omega)]
      rw [ez_126]
      simp only [zc45 h.2.2.2.1.1 wr.1 hk ha, zbs, zBi, decide_eq_true q, cond_true, zgd_t (iI_ink (z := n) (k := n) rfl (show n < 9 by omega) (by decide)), iI_Nn (show n ≤ 2147483647 by omega), e47]
      refine ⟨0, _, by rw [h.2.2.2.1.2 n m hn hm], RC_r h (zFr_w (by omega)) ⟨by rw [zfe (by omega)]; exact h.2.2.2.1.1, fun j c hj hc => ?_⟩⟩
      show _ = iI (if j = n ∧ c = m then v else (xr x).2 j c)
      by_cases qj : j = n ∧ c = m
      · obtain ⟨rfl, rfl⟩ := qj
        rw [zfs, if_pos ⟨rfl, rfl⟩]
      · rw [zfe (by omega), if_neg qj]
        exact h.2.2.2.1.2 j c hj hc
    · have i0 : (3 : Int32) * iI n + iI m = iI ((3 * n + m : Nat) : Int) := by
        show iI 3 * iI n + iI m = _
        rw [iI_mul, iI_add]; congr 1
      rw [ez_229]
      simp only [zm227 (d := 61) h.2.2.2.1.1 wr.1 hk ha, zbs, zBi, decide_eq_true q, cond_true, i0, zgd_t (iI_ink (z := ((3 * n + m : Nat) : Int)) (k := 3 * n + m) rfl (show 3 * n + m < 27 by omega) (by decide)), iI_Nn (show 3 * n + m ≤ 2147483647 by omega), h.2.2.2.1.2 n m hn hm]
      refine ⟨0, _, rfl, RM_r h (zFr_w (by omega)) (mS_f h.1 (zfn (by omega))) ⟨by rw [zfe (by omega)]; exact h.2.2.2.1.1, fun j c hj hc => ?_⟩⟩
      show _ = iI (if j = n ∧ c = m then v else (xr x).2 j c)
      by_cases qj : j = n ∧ c = m
      · obtain ⟨rfl, rfl⟩ := qj
        rw [zfs, if_pos ⟨rfl, rfl⟩]
      · rw [zfe (by omega), if_neg qj]
        exact h.2.2.2.1.2 j c hj hc
  · refine zCq (-9) w (fun σ h => ?_) (fun σ h => ?_)
    · rw [ez_126]
      simp only [zc45 h.2.2.2.1.1 wr.1 hk ha, zbs, zBi, decide_eq_false q, cond_false]
      exact ⟨σ, rfl, zFr_r σ⟩
    · rw [ez_229]
      simp only [zm227 (d := 61) h.2.2.2.1.1 wr.1 hk ha, zbs, zBi, decide_eq_false q, cond_false]
      exact ⟨σ, rfl, zFr_r σ, h.1⟩
