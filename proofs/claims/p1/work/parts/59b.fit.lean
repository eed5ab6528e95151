/-! span, liar: the reference's side -/
theorem zm219f {d b : Nat} {S : zS} {W : Nat} {σ : zM} (w : wA S) (h : mV S σ) (hb : b < (S 0).toNat) (hW : W ≤ 200) : ∃ τ, zev (d + 7) 219 [.inr (.inr (0, 60)), .inl (iI b), .inl (iI W)] σ = some (zB (aAny (aCr S (fW S b W)) (S 0).toNat 0), 0, τ) ∧ zFr (Wk 0 66) σ τ := by
  have b0 := w.1.1
  have b1 := w.1.2.1
  obtain ⟨τ, g1, g2, g3⟩ := zm168 (d := d) h.1 w.1 w.2.1 w.2.2.1
  have hS2 : mS 61 S τ := mS_f h.1 (zFr_f g2 (fun i => by omega))
  obtain ⟨τ2, f1, f2, f3⟩ := zm167e (d := d + 2) (x := (W : Int)) (z := (b : Int)) w.1 (by omega) (by omega) hS2 g3
  have f1 : zev (d + 6) 167 [.inr (.inr (0, 60)), .inl (iI b), .inl (iI W)] τ = _ := f1
  have hS3 : mS 61 S τ2 := mS_f hS2 (zFr_f f2 (fun i => by omega))
  have hh3 : mR 65 S (aHold S) τ2 := mR_f (mR_f h.2 (zFr_f g2 (fun i => by omega))) (zFr_f f2 (fun i => by omega))
  have hF : mF S (fW S b W) τ2 := ⟨aHold S, _, hh3, f3, fun u hu => by
    have h1 := aHold_b w.1 w.2.1 w.2.2.2.2.1 hu
    have h2 := aBear_b w.1 w.2.1 w.2.2.1 hu
    refine ⟨rfl, by omega, ?_⟩
    show zrn (aBear S u + bif aAbI S b u then (W : Int) else 0)
    cases aAbI S b u
    · rw [cond_false]; omega
    · rw [cond_true]; omega⟩
  have key : ∀ (m k : Nat) (v : Bool) (d1 d2 : Option zV), k + m = (S 0).toNat → zrun (zev (d + 6)) zT_219 15 [some (.inr (.inr (0, 60))), d1, d2, some (.inl (zB v)), some (.inl (iI k))] [] τ2 = some (zB (v || aAny (aCr S (fW S b W)) m k), 0, τ2) := by
    intro m
    induction m with
    | zero =>
      intro k v d1 d2 hk
      rw [ez_219_15, hS3 0 (by decide), if_neg (by rw [iI_lt (by omega) (by omega)]; omega), show (v || aAny (aCr S (fW S b W)) 0 k) = v from Bool.or_false v]
      cases v
      · exact zgd_t rfl
      · exact zgd_t rfl
    | succ m ih =>
      intro k v d1 d2 hk
      have e169 : zev (d + 6) 169 [.inr (.inr (0, 60)), .inl (iI k)] τ2 = _ := zm169 (d := d + 2) hS3 w.1 hF (by omega)
      have eA : aAny (aCr S (fW S b W)) (m + 1) k = (aCr S (fW S b W) k || aAny (aCr S (fW S b W)) m (k + 1)) := rfl
      rw [ez_219_15, hS3 0 (by decide), if_pos (by rw [iI_lt (by omega) (by omega)]; omega), eA]
      simp only [zBi, e169, zbs, hki1]
      cases v
      · rw [cond_false]
        cases aCr S (fW S b W) k
        · rw [cond_false]; exact ih (k + 1) false none none (by omega)
        · rw [cond_true]; exact ih (k + 1) true none none (by omega)
      · rw [cond_true]
        exact ih (k + 1) true none none (by omega)
  have k1 := key (S 0).toNat 0 false (some (.inl (iI b))) (some (.inl (iI W))) (by omega)
  have k1 : zrun (zev (d + 6)) zT_219 15 [some (.inr (.inr (0, 60))), some (.inl (iI b)), some (.inl (iI W)), some (.inl 0), some (.inl 0)] [] τ2 = _ := k1
  rw [ez_219]
  simp only [g1, f1, zbs]
  exact ⟨τ2, k1, zFr_tt g2 f2⟩
/-- how many of 1 to k - 1 lie between -/
def fCt (lo hi k : Int) : Int := if 0 < (if k - 1 < hi then k - 1 else hi) - lo + 1 then (if k - 1 < hi then k - 1 else hi) - lo + 1 else 0
theorem fCt_in {lo hi k : Int} (h : lo ≤ k ∧ k ≤ hi) : fCt lo hi (k + 1) = k - lo + 1 := by
  unfold fCt
  repeat' split
  all_goals omega
theorem fCt_at {lo hi : Int} : fCt lo hi lo = 0 := by
  unfold fCt
  repeat' split
  all_goals omega
theorem fCt_bf {lo hi k : Int} (h : lo < k ∧ k ≤ hi) : fCt lo hi k = k - lo := by
  unfold fCt
  repeat' split
  all_goals omega
theorem fCt_out {lo hi k : Int} (h : ¬ (lo ≤ k ∧ k ≤ hi)) : fCt lo hi (k + 1) = fCt lo hi k := by
  unfold fCt
  repeat' split
  all_goals omega
theorem fCt_lo {lo hi k : Int} (h : k ≤ lo) : fCt lo hi k = 0 := by
  unfold fCt
  repeat' split
  all_goals omega
theorem fCt_ol {lo hi k : Int} (h : ¬ (lo ≤ k ∧ k ≤ hi)) (z : 0 < fCt lo hi k) : (if k + 1 - 1 < hi then k + 1 - 1 else hi) = (if k - 1 < hi then k - 1 else hi) := by
  by_cases q : k ≤ lo
  · rw [fCt_lo q] at z; omega
  · rw [if_neg (by omega), if_neg (by omega)]
theorem fCt_one {lo hi : Int} (h : 1 ≤ lo) : fCt lo hi 1 = 0 := by
  unfold fCt
  repeat' split
  all_goals omega
def mFt (lo hi k : Int) (σ : zM) : Prop := σ.1 0 60 12 = iI (fCt lo hi k) ∧ (0 < fCt lo hi k → σ.1 0 60 13 = iI lo ∧ σ.1 0 60 14 = iI (if k - 1 < hi then k - 1 else hi))
theorem mFt_f {lo hi k : Int} {σ τ : zM} (h : mFt lo hi k σ) (f : zFr (Wk 0 66) σ τ) : mFt lo hi k τ := by
  unfold mFt
  rw [f.1 0 60 12 (by omega), f.1 0 60 13 (by omega), f.1 0 60 14 (by omega)]
  exact h
theorem zm220f {d : Nat} {S : zS} {σ : zM} {a : Int} (w : wA S) (kk : wK S) (hS : mS 61 S σ) (ha : zrn a) : ∃ τ, zev (d + 9) 220 [.inr (.inr (0, 60)), .inl (iI a)] σ = some (0, 0, τ) ∧ zFr WM σ τ ∧ mS 61 S τ ∧ mFt (fLo S a (S 3).toNat) (fHi S a (S 3).toNat) 201 τ := by
  have b0 := w.1.1
  have b1 := w.1.2.1
  have r0 := w.2.2.2.1.1
  have r1 := w.2.2.2.1.2.1
  have bd := fLH_b (a := a) w (S 3).toNat (Nat.le_refl _)
  generalize hlo : fLo S a (S 3).toNat = lo at bd ⊢
  generalize hhi : fHi S a (S 3).toNat = hi at bd ⊢
  obtain ⟨τ, g1, g2, g3, g4⟩ := zm166c (d := d + 2) hS w
  have g1 : zev (d + 8) 166 [.inr (.inr (0, 60))] σ = _ := g1
  have j2 : ∀ z : Nat, (2 : Int32) * iI z = iI ((2 * z : Nat) : Int) := fun z => by
    show iI 2 * iI z = _
    rw [iI_mul]; congr 1
  have j76 : ∀ z : Nat, (76 : Int32) + iI z = iI ((76 + z : Nat) : Int) := fun z => by
    show iI 76 + iI z = _
    rw [iI_add]; congr 1
  have hm : ∀ (m k : Nat) (d3 d4 d5 : Option zV) (σ : zM), k + m = 201 → 1 ≤ k → mV S σ → mFt lo hi k σ → ∃ τ, zrun (zev (d + 8)) zT_220 11 [some (.inr (.inr (0, 60))), some (.inl (iI a)), some (.inl (iI k)), d3, d4, d5] [] σ = some (0, 0, τ) ∧ zFr W12 σ τ ∧ mFt lo hi 201 τ := by
    intro m
    induction m with
    | zero =>
      intro k d3 d4 d5 σ hk _ h hf
      rw [ez_220_11, if_neg (by show ¬ iI k < iI 201; rw [iI_lt (by omega) (by omega)]; omega)]
      rw [show k = 201 by omega] at hf
      exact ⟨σ, rfl, zFr_r σ, hf⟩
    | succ m ih =>
      intro k d3 d4 d5 σ hk h1 h hf
      have end112 : ∀ (d4 d5 : Option zV) (σ : zM), mV S σ → mFt lo hi k σ → ∃ τ, zrun (zev (d + 8)) zT_220 112 [some (.inr (.inr (0, 60))), some (.inl (iI a)), some (.inl (iI k)), some (.inl (zB (fOk S a k (S 3).toNat))), d4, d5] [] σ = some (0, 0, τ) ∧ zFr W12 σ τ ∧ mFt lo hi 201 τ := by
        intro d4 d5 σ h hf
        have eo := fOk_i (S := S) (a := a) (W := (k : Int)) (by omega) (S 3).toNat
        have ek1 : ((k + 1 : Nat) : Int) = (k : Int) + 1 := by omega
        rw [hlo, hhi] at eo
        rw [ez_220_112, eo]
        simp only [hki1, zBi]
        by_cases q : lo ≤ (k : Int) ∧ (k : Int) ≤ hi
        · rw [decide_eq_true q, cond_true]
          have ec : fCt lo hi ((k + 1 : Nat) : Int) = (k : Int) - lo + 1 := by rw [ek1]; exact fCt_in q
          have el : (if ((k + 1 : Nat) : Int) - 1 < hi then ((k + 1 : Nat) : Int) - 1 else hi) = k := by split <;> omega
          have nx : ∀ σ' : zM, mV S σ' → σ'.1 0 60 12 = iI ((k : Int) - lo + 1) → σ'.1 0 60 13 = iI lo → σ'.1 0 60 14 = iI k → zFr W12 σ σ' → ∃ τ, zrun (zev (d + 8)) zT_220 11 [some (.inr (.inr (0, 60))), some (.inl (iI a)), some (.inl (iI ((k + 1 : Nat) : Int))), some (.inl (zB true)), none, none] [] σ' = some (0, 0, τ) ∧ zFr W12 σ τ ∧ mFt lo hi 201 τ := fun σ' hv e12 e13 e14 f => by
            obtain ⟨υ, y1, y2, y3⟩ := ih (k + 1) (some (.inl (zB true))) none none σ' (by omega) (by omega) hv ⟨by rw [ec]; exact e12, fun _ => ⟨e13, by rw [el]; exact e14⟩⟩
            exact ⟨υ, y1, zFr_tt f y2, y3⟩
          by_cases q2 : lo = (k : Int)
          · have e0 : σ.1 0 60 12 = 0 := by
              rw [hf.1, ← q2, fCt_at]
              rfl
            rw [if_pos e0]
            refine nx _ (mV_f h (zFr_tt (zFr_tt (zFr_w (by omega)) (zFr_w (by omega))) (zFr_w (by omega)))) ?_ ?_ ?_ (zFr_tt (zFr_tt (zFr_w (by omega)) (zFr_w (by omega))) (zFr_w (by omega)))
            · rw [zfs, zfe (by omega), zfe (by omega), e0, show (k : Int) - lo + 1 = 1 by omega]; decide
            · rw [zfe (by omega), zfe (by omega), zfs, q2]
            · rw [zfe (by omega), zfs]
          · have ek : fCt lo hi k = (k : Int) - lo := fCt_bf (by omega)
            have e0 : ¬ σ.1 0 60 12 = 0 := by
              rw [hf.1, ek, iI_0 (by omega)]; omega
            have h13 := (hf.2 (by omega)).1
            rw [if_neg e0]
            refine nx _ (mV_f h (zFr_tt (zFr_tt (zFr_w (by omega)) (zFr_w (by omega))) (zFr_w (by omega)))) ?_ ?_ ?_ (zFr_tt (zFr_tt (zFr_w (by omega)) (zFr_w (by omega))) (zFr_w (by omega)))
            · rw [zfs, zfe (by omega), zfe (by omega), hf.1, ek, iI_a1]
            · rw [zfe (by omega), zfe (by omega), zfs]; exact h13
            · rw [zfe (by omega), zfs]
        · rw [decide_eq_false q, cond_false]
          have ec : fCt lo hi ((k + 1 : Nat) : Int) = fCt lo hi k := by rw [ek1]; exact fCt_out q
          have el : 0 < fCt lo hi k → (if ((k + 1 : Nat) : Int) - 1 < hi then ((k + 1 : Nat) : Int) - 1 else hi) = (if (k : Int) - 1 < hi then (k : Int) - 1 else hi) := fun z => by rw [ek1]; exact fCt_ol q z
          exact ih (k + 1) (some (.inl (zB false))) none none σ (by omega) (by omega) h ⟨by rw [ec]; exact hf.1, fun z => by
            rw [ec] at z
            rw [el z]
            exact hf.2 z⟩
      have row : ∀ (n r : Nat) (d5 : Option zV) (σ : zM), r + n = (S 3).toNat → mV S σ → mFt lo hi k σ → ∃ τ, zrun (zev (d + 8)) zT_220 23 [some (.inr (.inr (0, 60))), some (.inl (iI a)), some (.inl (iI k)), some (.inl (zB (fOk S a k r))), some (.inl (iI r)), d5] [] σ = some (0, 0, τ) ∧ zFr W12 σ τ ∧ mFt lo hi 201 τ := by
        intro n
        induction n with
        | zero =>
          intro r d5 σ hr h hf
          have e := end112 (some (.inl (iI r))) none σ h hf
          rw [ez_220_23, h.1 3 (by decide), if_neg (by rw [iI_lt (by omega) (by omega)]; omega)]
          rw [show r = (S 3).toNat by omega] at e ⊢
          exact e
        | succ n ih2 =>
          intro r d5 σ hr h hf
          have wr := w.2.2.2.1.2.2 r (by omega)
          have rb := rB_l w (show r < (S 3).toNat by omega)
          have e1 : ∀ {y : zR}, zgd (zin (iI ((76 + 2 * r : Nat) : Int)) 320) y = y := fun {y} => zgd_t (iI_ink (z := ((76 + 2 * r : Nat) : Int)) (k := 76 + 2 * r) rfl (by omega) (by decide))
          have e2 : ∀ {y : zR}, zgd (zin (iI ((76 + 2 * r + 1 : Nat) : Int)) 320) y = y := fun {y} => zgd_t (iI_ink (z := ((76 + 2 * r + 1 : Nat) : Int)) (k := 76 + 2 * r + 1) rfl (by omega) (by decide))
          have n1 : Int32.toNatClampNeg (iI ((76 + 2 * r : Nat) : Int)) = 76 + 2 * r := iI_Nn (by omega)
          have n2 : Int32.toNatClampNeg (iI ((76 + 2 * r + 1 : Nat) : Int)) = 76 + 2 * r + 1 := iI_Nn (by omega)
          have eo : fOk S a k (r + 1) = (fOk S a k r && (decide ((r : Int) = a) || (!aBrk S (rB S r) && (decide (fCf S (rB S r) ≤ (k : Int)) == decide (S (77 + 2 * r) = 1))))) := rfl
          rw [ez_220_23, h.1 3 (by decide), if_pos (by rw [iI_lt (by omega) (by omega)]; omega)]
          cases q0 : fOk S a k r
          case false =>
            rw [if_pos (show zB false = 0 from rfl)]
            have e := end112 (some (.inl (iI r))) none σ h hf
            have ef := fOk_f q0 (n + 1)
            rw [show r + (n + 1) = (S 3).toNat by omega] at ef
            rw [ef] at e
            exact e
          case true =>
          rw [q0, Bool.true_and] at eo
          rw [if_neg (show ¬ zB true = 0 by decide)]
          have e57 : zev (d + 8) 157 [.inr (.inr (0, 60)), .inl (iI (rB S r : Nat))] σ = some (zB (aBrk S (rB S r)), 0, σ) := by
            have wb := w.1.2.2 (rB S r) rb.1
            exact zm157 (d := d + 5) h.1 (by omega) (by omega)
          have eq : (iI (r : Int) = iI a) = ((r : Int) = a) := iI_eq (by omega) ha
          obtain ⟨τ, y1, y2⟩ := zm219f (d := d + 1) (b := rB S r) (W := k) w h rb.1 (by omega)
          have y1 : zev (d + 8) 219 [.inr (.inr (0, 60)), .inl (iI (rB S r : Nat)), .inl (iI k)] σ = _ := y1
          have yv := mV_f h (zFr_i (W := W12) y2 fun _ _ _ q => by omega)
          have s77 : τ.1 0 61 (76 + 2 * r + 1) = iI (S (77 + 2 * r)) := by
            rw [yv.1 (76 + 2 * r + 1) (by omega), show 76 + 2 * r + 1 = 77 + 2 * r by omega]
          have e77 : (iI (S (77 + 2 * r)) = 1) = (S (77 + 2 * r) = 1) := iI_eq (b := 1) (by omega) (by decide)
          have go : ∀ (v : Bool) (x : Int32) (d5 : Option zV), fOk S a k (r + 1) = v → x = zB v → ∃ τ', zrun (zev (d + 8)) zT_220 23 [some (.inr (.inr (0, 60))), some (.inl (iI a)), some (.inl (iI k)), some (.inl x), some (.inl (iI ((r + 1 : Nat) : Int))), d5] [] τ = some (0, 0, τ') ∧ zFr W12 σ τ' ∧ mFt lo hi 201 τ' := fun v x d5 e1 e2 => by
            obtain ⟨υ, x1, x2, x3⟩ := ih2 (r + 1) d5 τ (by omega) yv (mFt_f hf y2)
            rw [e1, ← e2] at x1
            exact ⟨υ, x1, zFr_tt (zFr_i y2 fun _ _ _ q => by omega) x2, x3⟩
          simp only [j2, j76, e1, n1, h.1 (76 + 2 * r) (by omega), rb.2, e57, zbs, zBi, y1, hki1, e2, n2, s77, eq, e77]
          by_cases qa : (r : Int) = a
          · rw [if_pos qa]
            rw [decide_eq_true qa, Bool.true_or] at eo
            obtain ⟨υ, x1, x2, x3⟩ := ih2 (r + 1) (some (.inl (iI (rB S r : Nat)))) σ (by omega) h hf
            rw [eo] at x1
            exact ⟨υ, x1, x2, x3⟩
          · rw [if_neg qa]
            rw [decide_eq_false qa, Bool.false_or] at eo
            cases qb : aBrk S (rB S r)
            · rw [cond_false]
              rw [qb, Bool.not_false, Bool.true_and] at eo
              rw [fW_i w kk rb.1 qb (by omega)]
              by_cases q1 : S (77 + 2 * r) = 1
              · rw [if_pos q1]
                rw [decide_eq_true q1, bq_t] at eo
                cases qv : decide (fCf S (rB S r) ≤ (k : Int))
                · rw [if_neg (show ¬ zB false = 1 by decide)]
                  exact go false 0 _ (eo.trans qv) rfl
                · rw [if_pos (show zB true = 1 by decide)]
                  exact go true 1 _ (eo.trans qv) rfl
              · rw [if_neg q1]
                rw [decide_eq_false q1, bq_f] at eo
                cases qv : decide (fCf S (rB S r) ≤ (k : Int))
                · rw [qv] at eo
                  rw [cond_false]
                  exact go true 1 _ eo rfl
                · rw [qv] at eo
                  rw [cond_true]
                  exact go false 0 _ eo rfl
            · rw [cond_true]
              rw [qb, Bool.not_true, Bool.false_and] at eo
              obtain ⟨υ, x1, x2, x3⟩ := ih2 (r + 1) (some (.inl (iI (rB S r : Nat)))) σ (by omega) h hf
              rw [eo] at x1
              exact ⟨υ, x1, x2, x3⟩
      rw [ez_220_11, if_pos (by show iI k < iI 201; rw [iI_lt (by omega) (by omega)]; omega)]
      exact row (S 3).toNat 0 none σ (by omega) h hf
  have f0 : zFr W12 τ (zwI τ 0 60 12 0) := zFr_w (by omega)
  have c1 : fCt lo hi 1 = 0 := fCt_one bd.1
  obtain ⟨υ, y1, y2, y3⟩ := hm 200 1 none none none (zwI τ 0 60 12 0) (by omega) (by omega) (mV_f ⟨g3, g4⟩ f0) ⟨by rw [zfs]; show 0 = iI (fCt lo hi 1); rw [c1]; rfl, fun z => by have z : 0 < fCt lo hi 1 := z; omega⟩
  have y1 : zrun (zev (d + 8)) zT_220 11 [some (.inr (.inr (0, 60))), some (.inl (iI a)), some (.inl 1), none, none, none] [] (zwI τ 0 60 12 0) = _ := y1
  rw [ez_220]
  simp only [g1, zbs]
  have f2 := zFr_tt f0 y2
  exact ⟨υ, y1, zFr_tt g2 (zFr_i f2 fun _ _ _ q => by omega), mS_f g3 (zFr_f f2 (fun i => by omega)), y3⟩
theorem fCt_no {S : zS} {a : Int} (w : wA S) : fCt (fLo S a (S 3).toNat) (fHi S a (S 3).toNat) 201 = fNo S a := by
  have b := fLH_b (a := a) w (S 3).toNat (Nat.le_refl _)
  unfold fCt fNo
  repeat' split
  all_goals omega
/-- span -/
theorem zx_117 {x : zXx} (w : WX x) (c : Int) (hc : zrn c) : zCall 117 221 [.inl (iI c)] x := by
  have wk := w.2.2.2.2.2.2.1
  have c1 : ∀ {σ : zM}, zev 63 141 [.inl (iI c), .inl 0, .inl 2] σ = some (zB (decide (0 ≤ c ∧ c ≤ 2)), 0, σ) := zc141 (l := 0) (h := 2) hc (by decide) (by decide)
  have m1 : ∀ {σ : zM}, zev 63 149 [.inr (.inl (Int32.toInt64 (iI c))), .inr (.inl 0), .inr (.inl 2)] σ = some (zB (decide (0 ≤ c ∧ c ≤ 2)), 0, σ) := zm149k (l := 0) (h := 2) hc (by decide) (by decide)
  have bd := fLH_b (a := -1) w.1 (x.1 3).toNat (Nat.le_refl _)
  have fn := fLH_n (S := x.1) (a := -9) (c := -1) (by decide) (by decide) (x.1 3).toNat
  have no := fNo_n (S := x.1) (a := -9) (c := -1) (by decide) (by decide)
  have nb : 0 ≤ fNo x.1 (-1) ∧ fNo x.1 (-1) ≤ 201 := by unfold fNo; split <;> omega
  have e0 : (iI c = 0) = (c = 0) := iI_0 hc
  have e1 : (iI c = 1) = (c = 1) := iI_eq (b := 1) hc (by decide)
  have eN : (iI (fNo x.1 (-1)) = 0) = (fNo x.1 (-1) = 0) := iI_0 (by omega)
  refine zCq (if 0 ≤ c ∧ c ≤ 2 then (if c = 0 then iI (fNo x.1 (-1)) else if fNo x.1 (-1) = 0 then -3 else if c = 1 then iI (fLo x.1 (-1) (x.1 3).toNat) else iI (fHi x.1 (-1) (x.1 3).toNat)) else -1) w (fun σ h => ?_) (fun σ h => ?_)
  · obtain ⟨τ, g1, g2, g3, g4, -⟩ := zc27k (d := 58) h.1 w.1
    have g1 : zev 63 27 [.inr (.inr (0, 0))] σ = _ := g1
    obtain ⟨τ2, f1, f2, f3, f4⟩ := zc42f (d := 58) (a := -9) w.1 ⟨g3, g4⟩ (by decide)
    have f1 : zev 63 42 [.inr (.inr (0, 19)), .inr (.inr (0, 0)), .inl (-9)] τ = _ := f1
    have e44 := zc44f (d := 61) w.1 f3 f4
    have e44 : zev 63 44 [.inr (.inr (0, 19))] τ2 = _ := e44
    rw [no] at e44
    rw [fn.1] at f3
    rw [fn.2] at f4
    have fr : zFr WC σ τ2 := zFr_tt (zFr_i g2 fun _ _ _ q => by omega) (zFr_i f2 fun _ _ _ q => by omega)
    rw [ez_117]
    simp only [c1, zbs, zBi, g1, f1, e44, e0, e1, eN, f3, f4]
    by_cases q : 0 ≤ c ∧ c ≤ 2
    · rw [decide_eq_true q, cond_true, if_pos q]
      refine ⟨τ2, ?_, fr⟩
      repeat' split
      all_goals rfl
    · rw [decide_eq_false q, cond_false, if_neg q]
      exact ⟨σ, rfl, zFr_r σ⟩
  · obtain ⟨τ, g1, g2, g3, g4, g5⟩ := zm220f (d := 54) (a := -1) w.1 wk h.1 (by decide)
    have g1 : zev 63 220 [.inr (.inr (0, 60)), .inl (-1)] σ = _ := g1
    rw [fCt_no w.1] at g4 g5
    rw [ez_221]
    simp only [m1, zbs, zBi, g1, e0, e1, g4, eN]
    by_cases q : 0 ≤ c ∧ c ≤ 2
    · rw [decide_eq_true q, cond_true, if_pos q]
      refine ⟨τ, ?_, g2, g3⟩
      by_cases q0 : c = 0
      · rw [if_pos q0, if_pos q0]
      · rw [if_neg q0, if_neg q0]
        by_cases qn : fNo x.1 (-1) = 0
        · rw [if_pos qn, if_pos qn]
        · rw [if_neg qn, if_neg qn]
          obtain ⟨g6, g7⟩ := g5 (by omega)
          have e14 : (if (201 : Int) - 1 < fHi x.1 (-1) (x.1 3).toNat then (201 : Int) - 1 else fHi x.1 (-1) (x.1 3).toNat) = fHi x.1 (-1) (x.1 3).toNat := by split <;> omega
          rw [e14] at g7
          rw [g6, g7]
          by_cases q1 : c = 1
          · rw [if_pos q1, if_pos q1]
          · rw [if_neg q1, if_neg q1]
    · rw [decide_eq_false q, cond_false, if_neg q]
      exact ⟨σ, rfl, zFr_r σ, h.1⟩
/-- liar: the first without which some fit -/
def fLi (S : zS) : Nat → Nat → Int
  | 0, _ => -3
  | m + 1, k => if 0 < fNo S k then k else fLi S m (k + 1)
theorem zx_118 {x : zXx} (w : WX x) : zCall 118 222 [] x := by
  have wk := w.2.2.2.2.2.2.1
  have r0 := w.1.2.2.2.1.1
  have r1 := w.1.2.2.2.1.2.1
  have no := fNo_n (S := x.1) (a := -9) (c := -1) (by decide) (by decide)
  have nb : ∀ a, 0 ≤ fNo x.1 a ∧ fNo x.1 a ≤ 201 := fun a => by
    have bd := fLH_b (a := a) w.1 (x.1 3).toNat (Nat.le_refl _)
    unfold fNo; split <;> omega
  have eP : ∀ a, (0 < iI (fNo x.1 a)) = (0 < fNo x.1 a) := fun a => iI_0lt (by have := nb a; omega)
  have eZ : ∀ a, (iI (fNo x.1 a) = 0) = (fNo x.1 a = 0) := fun a => iI_0 (by have := nb a; omega)
  refine zCq (if 0 < fNo x.1 (-1) then -3 else iI (fLi x.1 (x.1 3).toNat 0)) w (fun σ h => ?_) (fun σ h => ?_)
  · obtain ⟨τ, g1, g2, g3, g4, -⟩ := zc27k (d := 58) h.1 w.1
    have g1 : zev 63 27 [.inr (.inr (0, 0))] σ = _ := g1
    obtain ⟨τ2, f1, f2, f3, f4⟩ := zc42f (d := 58) (a := -9) w.1 ⟨g3, g4⟩ (by decide)
    have f1 : zev 63 42 [.inr (.inr (0, 19)), .inr (.inr (0, 0)), .inl (-9)] τ = _ := f1
    have e44 := zc44f (d := 61) w.1 f3 f4
    have e44 : zev 63 44 [.inr (.inr (0, 19))] τ2 = _ := e44
    rw [no] at e44
    have fr : zFr WC σ τ2 := zFr_tt (zFr_i g2 fun _ _ _ q => by omega) (zFr_i f2 fun _ _ _ q => by omega)
    have key : ∀ (m k : Nat) (τ : zM), k + m = (x.1 3).toNat → cV x.1 τ → zFr WC σ τ → ∃ υ, zrun (zev 63) zT_118 41 [some (.inr (.inr (0, 30))), some (.inl (iI k))] [] τ = some (iI (fLi x.1 m k), 0, υ) ∧ zFr WC σ υ := by
      intro m
      induction m with
      | zero =>
        intro k τ hk h f
        rw [ez_118_41, h.1.2.2.2.2.1.1, if_neg (by rw [iI_lt (by omega) (by omega)]; omega)]
        exact ⟨τ, rfl, f⟩
      | succ m ih =>
        intro k τ hk h f
        obtain ⟨τ2, f1, f2, f3, f4⟩ := zc42f (d := 58) (a := (k : Int)) w.1 h (by omega)
        have f1 : zev 63 42 [.inr (.inr (0, 19)), .inr (.inr (0, 0)), .inl (iI k)] τ = _ := f1
        have e44 := zc44f (d := 61) w.1 f3 f4
        have e44 : zev 63 44 [.inr (.inr (0, 19))] τ2 = _ := e44
        have fr : zFr WC σ τ2 := zFr_tt f (zFr_i f2 fun _ _ _ q => by omega)
        have el : fLi x.1 (m + 1) k = if 0 < fNo x.1 k then (k : Int) else fLi x.1 m (k + 1) := rfl
        rw [ez_118_41, h.1.2.2.2.2.1.1, if_pos (by rw [iI_lt (by omega) (by omega)]; omega), el]
        simp only [f1, e44, zbs, hki1, eP]
        by_cases q : 0 < fNo x.1 k
        · rw [if_pos q, if_pos q]
          exact ⟨τ2, rfl, fr⟩
        · rw [if_neg q, if_neg q]
          exact ih (k + 1) τ2 (by omega) (cV_f h f2) fr
    obtain ⟨υ, y1, y2⟩ := key (x.1 3).toNat 0 τ2 (by omega) (cV_f ⟨g3, g4⟩ f2) fr
    have y1 : zrun (zev 63) zT_118 41 [some (.inr (.inr (0, 30))), some (.inl 0)] [] τ2 = _ := y1
    rw [ez_118]
    simp only [g1, f1, e44, zbs, eP]
    by_cases q : 0 < fNo x.1 (-1)
    · rw [if_pos q, if_pos q]
      exact ⟨τ2, rfl, fr⟩
    · rw [if_neg q, if_neg q]
      exact ⟨υ, y1, y2⟩
  · obtain ⟨τ, g1, g2, g3, g4, -⟩ := zm220f (d := 54) (a := -1) w.1 wk h.1 (by decide)
    have g1 : zev 63 220 [.inr (.inr (0, 60)), .inl (-1)] σ = _ := g1
    rw [fCt_no w.1] at g4
    have key : ∀ (m k : Nat) (τ : zM), k + m = (x.1 3).toNat → mS 61 x.1 τ → zFr WM σ τ → ∃ υ, zrun (zev 63) zT_222 20 [some (.inr (.inr (0, 60))), some (.inl 1), some (.inl (iI k))] [] τ = some (iI (fLi x.1 m k), 0, υ) ∧ zFr WM σ υ ∧ mS 61 x.1 υ := by
      intro m
      induction m with
      | zero =>
        intro k τ hk hS f
        rw [ez_222_20, hS 3 (by decide), if_neg (by rw [iI_lt (by omega) (by omega)]; omega)]
        exact ⟨τ, rfl, f, hS⟩
      | succ m ih =>
        intro k τ hk hS f
        obtain ⟨τ2, f1, f2, f3, f4, -⟩ := zm220f (d := 54) (a := (k : Int)) w.1 wk hS (by omega)
        have f1 : zev 63 220 [.inr (.inr (0, 60)), .inl (iI k)] τ = _ := f1
        rw [fCt_no w.1] at f4
        have el : fLi x.1 (m + 1) k = if 0 < fNo x.1 k then (k : Int) else fLi x.1 m (k + 1) := rfl
        rw [ez_222_20, hS 3 (by decide), if_pos (by rw [iI_lt (by omega) (by omega)]; omega), el]
        simp only [f1, zbs, hki1, f4, eP]
        rw [if_neg (show ¬ (1 : Int32) = 0 by decide)]
        by_cases q : 0 < fNo x.1 k
        · rw [if_pos q, if_pos q]
          exact ⟨τ2, rfl, zFr_tt f f2, f3⟩
        · rw [if_neg q, if_neg q]
          exact ih (k + 1) τ2 (by omega) f3 (zFr_tt f f2)
    rw [ez_222]
    simp only [g1, zbs, g4, eZ]
    have n1 := nb (-1)
    by_cases q : 0 < fNo x.1 (-1)
    · rw [if_neg (by omega), if_pos q, ez_222_20, g3 3 (by decide)]
      rw [if_pos (show (0 : Int32) = 0 from rfl)]
      refine ⟨τ, ?_, g2, g3⟩
      split <;> rfl
    · rw [if_pos (by omega), if_neg q]
      exact key (x.1 3).toNat 0 τ (by omega) g3 g2
