theorem cGo1 {t : zXt} {d u n c0 o s b : Nat} {L R : List Int} {σ τ : zM} (w : wT t) (ht : tS t s) (hs : s < t.1) (hb : b ≤ s) (hn : n < 8) (h : cAt t u n c0 o L R σ) (e1 : zev (d + 8) 49 [.inr (.inr (0, 33)), .inl (iI (aWe t s))] σ = some (1, 0, τ)) (e2 : zFr (Wcd c0) σ τ) : cLp d (iI b) (iI s) σ = cLp d (iI (aTf t s : Nat)) (iI (nx t s : Nat)) τ := by
  rw [aWe_d hs] at e1
  rw [cLp_t h.1 w hs (ht.2 hs) hb h.2.2.1 hn e1 (zFr_dr e2)]
  unfold nx
  rw [aTf_e hs]
noncomputable def mX (K : Nat) (F : Bool) (σ : zM) : zR := zrun (zev (K + 8)) zT_244 2 [some (.inr (.inr (0, 60))), some (.inl (zB F))] [] σ
noncomputable def mTl (K : Nat) (F : Bool) (σ : zM) : zR := bif F then ((zev (K + 8) 241 [.inr (.inr (0, 60)), .inl (-20)] σ).bind fun x => some (0, 0, x.2.2)) else some (0, 0, σ)
noncomputable def mX65 (K : Nat) (F : Bool) (p : Int32) (σ : zM) : zR := zrun (zev (K + 8)) zT_244 65 [some (.inr (.inr (0, 60))), some (.inl (zB F))] [.inl p, .inr (.inr (0, 60))] σ
theorem mTl_o {t : zXt} {K s m o : Nat} {F : Bool} {S : zS} {σ : zM} (h : mOk t s m o S σ) (hm : m < 200) : ∃ τ, mTl K F σ = some (0, 0, τ) ∧ zFr Wmp σ τ ∧ mOk t s (m + (bif F then [-20] else [] : List Int).length) o (aPut S m (bif F then [-20] else [])) τ := by
  cases F
  · exact ⟨σ, rfl, zFr_r σ, h⟩
  · obtain ⟨τ, e1, e2, e3⟩ := zm241 (d := K + 7) (p := -20) h hm
    refine ⟨τ, ?_, e2, e3⟩
    have e1 : zev (K + 8) 241 [.inr (.inr (0, 60)), .inl (-20)] σ = _ := e1
    show ((zev (K + 8) 241 [.inr (.inr (0, 60)), .inl (-20)] σ).bind fun x => some (0, 0, x.2.2)) = _
    rw [e1]
    rfl
theorem mTl_x {t : zXt} {K s o : Nat} {F : Bool} {σ : zM} (h : mBd t s o σ) : mTl K F σ = some (0, 0, σ) := by
  cases F
  · rfl
  · show ((zev (K + 8) 241 [.inr (.inr (0, 60)), .inl (-20)] σ).bind fun x => some (0, 0, x.2.2)) = _
    rw [zm241x (d := K + 7) h.2.1]
    rfl
theorem mX_n {t : zXt} {K s m o : Nat} {F : Bool} {S : zS} {σ : zM} (w : wT t) (h : mOk t s m o S σ) (hs : s ≤ t.1) (q : aWe t s = -9) : ∃ τ, zFr Wmp σ τ ∧ mOk t (nx t s) m o S τ ∧ mX K F σ = mX K (!F) τ := by
  obtain ⟨τ, f1, f2, f3, f4⟩ := zm236t (d := K + 3) w h.1 (aTf_l hs).2 h.2.1
  refine ⟨τ, zFr_i f2 fun _ _ _ q => by omega, ⟨f3, f4, mMm_f h.2.2 f2⟩, ?_⟩
  have k10 : (lg_cmp (aHs t s) 14836 = 0) = (aWe t s = -9) := aWe_k (g := 10) w hs (by decide)
  unfold mX
  rw [ez_244_2, zm237 (d := K + 4) w h.1 hs h.2.1]
  simp only [zbs, cond_false, k10, f1, zBi]
  rw [if_pos q]
  cases F <;> rfl
theorem mX_s {t : zXt} {K s m o : Nat} {F : Bool} {S : zS} {σ : zM} (w : wT t) (h : mOk t s m o S σ) (hs : s ≤ t.1) (q : aWe t s ≠ -9) (ho : o ≤ 3) : mX K F σ = if aWe t s = -12 then mX65 K F (if o < 3 then 1 else 0) σ else (zev (K + 8) 243 [.inr (.inr (0, 60))] σ).bind fun x => mTl K F x.2.2 := by
  have hl := w.1
  have hb := aBt_r w s
  have k10 : (lg_cmp (aHs t s) 14836 = 0) = (aWe t s = -9) := aWe_k (g := 10) w hs (by decide)
  have e40 : (iI (aBt t s) = 40) = (aWe t s = -12) := (iI_eq (b := 40) (by omega) (by decide)).trans aWe_40
  have e3 : (iI (o : Int) < 3) = ((o : Int) < 3) := iI_lt (b := 3) (by omega) (by decide)
  unfold mX mX65 mTl
  rw [ez_244_2, zm237 (d := K + 4) w h.1 hs h.2.1]
  simp only [zbs, cond_false, k10, h.2.1, zBi, h.1.2.1, zm232 (d := K + 7) h.1.1 w (show s ≤ 1000 by omega), e40, h.2.2.1, e3]
  rw [if_neg q]
  by_cases q2 : aWe t s = -12
  · rw [if_pos q2, if_pos q2]
    by_cases q3 : o < 3
    · rw [if_pos (by omega), if_pos q3]
    · rw [if_neg (by omega), if_neg q3]
  · rw [if_neg q2, if_neg q2]
noncomputable def mX65b (K : Nat) (F : Bool) (σ : zM) : zR := if σ.1 0 60 24 = 0 then ((zev (K + 8) 232 [.inr (.inr (0, 60)), .inl (σ.1 0 60 19)] σ).bind fun x2 => if x2.1 = 41 then ((zev (K + 8) 236 [.inr (.inr (0, 60)), .inl 1] x2.2.2).bind fun x3 => mTl K F x3.2.2) else ((zev (K + 8) 236 [.inr (.inr (0, 60)), .inl 0] x2.2.2).bind fun x5 => mTl K F x5.2.2)) else ((zev (K + 8) 236 [.inr (.inr (0, 60)), .inl 0] σ).bind fun x7 => mTl K F x7.2.2)
theorem mX65_e {K : Nat} {F : Bool} {p : Int32} {σ : zM} : mX65 K F p σ = (zev (K + 8) 236 [.inr (.inr (0, 60)), .inl p] σ).bind fun x0 => (zev (K + 8) 246 [.inr (.inr (0, 60))] (zwI x0.2.2 0 60 22 ((x0.2.2.1 0 60 22) + 1))).bind fun x1 => mX65b K F (zwI x1.2.2 0 60 22 ((x1.2.2.1 0 60 22) - 1)) := by
  unfold mX65 mX65b mTl
  rw [ez_244_65]
  simp only [zBi]
theorem mTk_22 {t : zXt} {s e : Nat} {v : Int32} {σ : zM} (h : mTk t s e σ) : mTk t s e (zwI σ 0 60 22 v) := ⟨⟨by rw [zfe (by omega)]; exact h.1.1, fun i hi => by rw [zfe (by omega)]; exact h.1.2 i hi⟩, by rw [zfe (by omega)]; exact h.2.1, by rw [zfe (by omega)]; exact h.2.2⟩
theorem mOk_22 {t : zXt} {s m o o2 : Nat} {S : zS} {σ : zM} (h : mOk t s m o S σ) : mOk t s m o2 S (zwI σ 0 60 22 (iI o2)) := ⟨mTk_22 h.1, by rw [zfe (by omega)]; exact h.2.1, zfs, by rw [zfe (by omega)]; exact h.2.2.2.1, mS_f h.2.2.2.2 (zfn (by omega))⟩
theorem mBd_22 {t : zXt} {s o o2 : Nat} {σ : zM} (h : mBd t s o σ) : mBd t s o2 (zwI σ 0 60 22 (iI o2)) := ⟨mTk_22 h.1, by rw [zfe (by omega)]; exact h.2.1, zfs⟩
theorem mX65b_x {t : zXt} {K s o : Nat} {F : Bool} {σ : zM} (h : mBd t s o σ) : mX65b K F σ = some (0, 0, zwI σ 0 60 24 1) := by
  unfold mX65b
  rw [h.2.1, if_neg (by decide), zm236x (d := K + 7) h.2.1]
  simp only [zbs]
  exact mTl_x (mBd_24 h)
theorem mX65b_n {t : zXt} {K s m o : Nat} {F : Bool} {S : zS} {σ : zM} (w : wT t) (h : mOk t s m o S σ) (hs : s ≤ t.1) (q : aWe t s ≠ -13) : mX65b K F σ = some (0, 0, zwI σ 0 60 24 1) := by
  have hl := w.1
  have hb := aBt_r w s
  have e41 : (iI (aBt t s) = 41) = (aWe t s = -13) := (iI_eq (b := 41) (by omega) (by decide)).trans aWe_41
  unfold mX65b
  rw [h.2.1, if_pos (by decide), h.1.2.1, zm232 (d := K + 7) h.1.1 w (show s ≤ 1000 by omega)]
  simp only [zbs, e41]
  rw [if_neg q, zm236f (d := K + 7) h.2.1]
  simp only [zbs]
  exact mTl_x (t := t) (s := s) (o := o) ⟨mTk_24 h.1, by rw [zfs]; rfl, by rw [zfe (by omega)]; exact h.2.2.1⟩
theorem mX65b_o {t : zXt} {K s m o : Nat} {F : Bool} {S : zS} {σ : zM} (w : wT t) (h : mOk t s m o S σ) (hs : s ≤ t.1) (q : aWe t s = -13) : ∃ τ, zFr Wmp σ τ ∧ mOk t (nx t s) m o S τ ∧ mX65b K F σ = mTl K F τ := by
  have hl := w.1
  have hb := aBt_r w s
  have e41 : (iI (aBt t s) = 41) = (aWe t s = -13) := (iI_eq (b := 41) (by omega) (by decide)).trans aWe_41
  obtain ⟨τ, f1, f2, f3, f4⟩ := zm236t (d := K + 3) w h.1 (aTf_l hs).2 h.2.1
  refine ⟨τ, zFr_i f2 fun _ _ _ q => by omega, ⟨f3, f4, mMm_f h.2.2 f2⟩, ?_⟩
  unfold mX65b
  rw [h.2.1, if_pos (by decide), h.1.2.1, zm232 (d := K + 7) h.1.1 w (show s ≤ 1000 by omega)]
  simp only [zbs, e41]
  rw [if_pos q, f1]
  rfl
theorem zm246x {d : Nat} {σ : zM} (hF : σ.1 0 60 24 = zB true) : zev (d + 1) 246 [.inr (.inr (0, 60))] σ = some (0, 0, σ) := by
  rw [ez_246]
  simp only [hF, zBi, cond_true]
def kOn (t : zXt) (d n o s s2 k : Nat) (B : List Int) : Prop := ∀ c0 L R b σ, b ≤ s → cAt t 4 n c0 o L R σ → rR R → c0 + L.length + R.length + 4 ≤ s → ∃ b2 τ, b2 ≤ s2 ∧ cLp d (iI b) (iI s) σ = cLp d (iI (b2 : Nat)) (iI (s2 : Nat)) τ ∧ zFr (Wcd c0) σ τ ∧ cAt t 7 n c0 o (L ++ B) (nR k R) τ ∧ c0 + (L ++ B).length + (nR k R).length + 4 ≤ s2
def kOx (t : zXt) (d n o s s2 : Nat) : Prop := ∀ c0 L R b σ, b ≤ s → cAt t 4 n c0 o L R σ → rR R → c0 + L.length + R.length + 4 ≤ s → ∃ τ, cLp d (iI b) (iI s) σ = some (iI (s2 : Nat), 0, τ) ∧ zFr (Wcd c0) σ τ
def oOu (t : zXt) (d n K o s H : Nat) : Prop := (∃ s2 k B A, s2 ≤ t.1 ∧ tS t s2 ∧ A.length + k + s ≤ s2 ∧ B.length + k + s ≤ s2 ∧ eqv H B A ∧ (∀ F, mGo t (mX K F) o s s2 (A ++ (bif F != oD k then [-20] else []))) ∧ kOn t d n o s s2 k B) ∨ (∃ s2, s2 ≤ t.1 ∧ (∀ F, mNo t (mX K F) o s s2) ∧ kOx t d n o s s2)
theorem one_p {t : zXt} {d n K o s H : Nat} (w : wT t) (hn : n < 8) (ho : o ≤ 3) (hH : 2 ≤ H) (ht : tS t s) (q9 : aWe t s ≠ -9) (q12 : aWe t s ≠ -12) : oOu t d n K o s H := by
  have hl := w.1
  have n1 := nx_l ht.1
  have n2 := nx_l n1.2
  have t1 := tS_nx ht.1
  have t2 := tS_nx t1.1
  have r1 := aWe_r (t := t) (s := s)
  have r2 := aWe_r (t := t) (s := nx t s)
  have r3 := aWe_r (t := t) (s := nx t (nx t s))
  have mm : ∀ F m S σ, mOk t s m o S σ → mX K F σ = (zev (K + 8) 243 [.inr (.inr (0, 60))] σ).bind fun x => mTl K F x.2.2 := fun F m S σ h => by
    rw [mX_s w h ht.1 q9 ho, if_neg q12]
  by_cases c1 : -5 ≤ aWe t s
  case neg =>
    refine Or.inr ⟨s, ht.1, fun F m S σ h hm => ?_, fun c0 L R b σ hb h hr hk => ?_⟩
    · obtain ⟨τ, e1, e2, -, e4, -⟩ := zm243 (d := K) w h ht.1 (by omega)
      refine ⟨τ, ?_, e2, e4 c1⟩
      rw [mm F m S σ h, e1]
      exact mTl_x (e4 c1)
    · exact ⟨σ, cGx w ht hb hn h (by decide) fun q => t4x (by omega) (by omega) q9 (fun z => absurd z q12) ho, zFr_r σ⟩
  case pos =>
  have hs : s < t.1 := aWe_s (by omega)
  have x1 := nx_g hs
  have st1 : ∀ c0 L R b σ, b ≤ s → cAt t 4 n c0 o L R σ → c0 + L.length + R.length + 4 ≤ s → ∃ τ, cLp d (iI b) (iI s) σ = cLp d (iI (aTf t s : Nat)) (iI (nx t s : Nat)) τ ∧ zFr (Wcd c0) σ τ ∧ cAt t 5 n c0 o (L ++ [aWe t s]) R τ := fun c0 L R b σ hb h hk => cGo w ht hs hb hn h (t4v ⟨c1, r1.2⟩ (by omega))
  have b1 : aTf t s ≤ nx t s := (aTs_l (aTf_l ht.1).2).1
  by_cases c2 : -8 ≤ aWe t (nx t s) ∧ aWe t (nx t s) ≤ -6
  case neg =>
    refine Or.inr ⟨nx t s, n1.2, fun F m S σ h hm => ?_, fun c0 L R b σ hb h hr hk => ?_⟩
    · obtain ⟨τ, e1, e2, -, -, e4, -⟩ := zm243 (d := K) w h ht.1 (by omega)
      refine ⟨τ, ?_, e2, e4 c1 c2⟩
      rw [mm F m S σ h, e1]
      exact mTl_x (e4 c1 c2)
    · obtain ⟨τ, e1, e2, e3⟩ := st1 c0 L R b σ hb h hk
      exact ⟨τ, e1.trans (cGx w t1 b1 hn e3 (by decide) fun q => t5x (by omega) c2), e2⟩
  case pos =>
  have hs1 : nx t s < t.1 := aWe_s (by omega)
  have x2 := nx_g hs1
  have b2 : aTf t (nx t s) ≤ nx t (nx t s) := (aTs_l (aTf_l t1.1).2).1
  have st2 : ∀ c0 L R b σ, b ≤ s → cAt t 4 n c0 o L R σ → c0 + L.length + R.length + 4 ≤ s → ∃ τ, cLp d (iI b) (iI s) σ = cLp d (iI (aTf t (nx t s) : Nat)) (iI (nx t (nx t s) : Nat)) τ ∧ zFr (Wcd c0) σ τ ∧ cAt t 6 n c0 o (L ++ [aWe t s]) R τ ∧ τ.1 0 33 2 = iI (aWe t (nx t s)) := fun c0 L R b σ hb h hk => by
    obtain ⟨τ, e1, e2, e3⟩ := st1 c0 L R b σ hb h hk
    obtain ⟨υ, y1, y2, y3, y4⟩ := t5s (d := d) e3 c2
    exact ⟨υ, e1.trans (cGo1 w t1 hs1 b1 hn e3 y1 y2), zFr_tt e2 y2, y3, y4⟩
  by_cases c3 : -5 ≤ aWe t (nx t (nx t s))
  case neg =>
    refine Or.inr ⟨nx t (nx t s), n2.2, fun F m S σ h hm => ?_, fun c0 L R b σ hb h hr hk => ?_⟩
    · obtain ⟨τ, e1, e2, -, -, -, e4⟩ := zm243 (d := K) w h ht.1 (by omega)
      refine ⟨τ, ?_, e2, e4 c1 c2 c3⟩
      rw [mm F m S σ h, e1]
      exact mTl_x (e4 c1 c2 c3)
    · obtain ⟨τ, e1, e2, e3, e4⟩ := st2 c0 L R b σ hb h hk
      exact ⟨τ, e1.trans (cGx w t2 b2 hn e3 (by decide) fun q => t6x (by omega) (by omega)), e2⟩
  case pos =>
  have hs2 : nx t (nx t s) < t.1 := aWe_s (by omega)
  have x3 := nx_g hs2
  have t3 := tS_nx t2.1
  have b3 : aTf t (nx t (nx t s)) ≤ nx t (nx t (nx t s)) := (aTs_l (aTf_l t2.1).2).1
  refine Or.inl ⟨nx t (nx t (nx t s)), 0, [aWe t s, aWe t (nx t (nx t s)), aWe t (nx t s)], [aWe t s, aWe t (nx t (nx t s)), aWe t (nx t s) - 5], t3.1, t3, ?_, ?_, eqv_m (eqv_p ⟨c1, r1.2⟩ ⟨c3, r3.2⟩ c2) hH, fun F m S σ h hm => ?_, fun c0 L R b σ hb h hr hk => ?_⟩
  · show 3 + 0 + s ≤ _
    omega
  · show 3 + 0 + s ≤ _
    omega
  · obtain ⟨τ, e1, e2, e3, -⟩ := zm243 (d := K) w h ht.1 (by omega)
    obtain ⟨υ, y1, y2, y3⟩ := mTl_o (K := K) (F := F) (e3 c1 c2 c3) (by omega)
    refine ⟨υ, ?_, zFr_tt e2 y2, ?_⟩
    · rw [mm F m S σ h, e1]
      exact y1
    · cases F <;> exact y3
  · obtain ⟨τ, e1, e2, e3, e4⟩ := st2 c0 L R b σ hb h hk
    have ll : (L ++ [aWe t s]).length = L.length + 1 := List.length_append
    obtain ⟨υ, y1, y2, y3⟩ := t6v (d := d) e3 e4 ⟨c3, r3.2⟩ (by omega)
    have la : L ++ [aWe t s] ++ [aWe t (nx t (nx t s))] ++ [aWe t (nx t s)] = L ++ [aWe t s, aWe t (nx t (nx t s)), aWe t (nx t s)] := by
      rw [List.append_assoc, List.append_assoc]; rfl
    rw [la] at y3
    refine ⟨_, υ, b3, e1.trans (cGo1 w t2 hs2 b2 hn e3 y1 y2), zFr_tt e2 y2, y3, ?_⟩
    rw [List.length_append]
    show c0 + (L.length + 3) + R.length + 4 ≤ _
    omega
theorem one_b {t : zXt} {d n K o s H : Nat} (w : wT t) (hn : n < 8) (ho : o ≤ 3) (ht : tS t s) (q12 : aWe t s = -12) (hC : o < 3 → ∀ s, tS t s → zOu t d n (o + 1) s H (-11) (zev (K + 8) 246 [.inr (.inr (0, 60))])) : oOu t d n K o s H := by
  have hl := w.1
  have q9 : aWe t s ≠ -9 := by omega
  have hs : s < t.1 := aWe_s (by omega)
  have x1 := nx_g hs
  have n1 := nx_l ht.1
  have t1 := tS_nx ht.1
  have b1 : aTf t s ≤ nx t s := (aTs_l (aTf_l ht.1).2).1
  by_cases h3 : o < 3
  case neg =>
    refine Or.inr ⟨s, ht.1, fun F m S σ h hm => ?_, fun c0 L R b σ hb h hr hk => ?_⟩
    · have hb : mBd t s o (zwI σ 0 60 24 1) := ⟨mTk_24 h.1, by rw [zfs]; rfl, by rw [zfe (by omega)]; exact h.2.2.1⟩
      have hb2 := mBd_22 (o2 := o + 1) hb
      have hb3 := mBd_22 (o2 := o) hb2
      refine ⟨_, ?_, zFr_tt (zFr_tt (zFr_tt (zFr_w (by omega)) (zFr_w (by omega))) (zFr_w (by omega))) (zFr_w (by omega)), mBd_24 hb3⟩
      rw [mX_s w h ht.1 q9 ho, if_pos q12, if_neg h3, mX65_e, zm236f (d := K + 7) h.2.1]
      simp only [zbs, hb.2.2, hki1, zm246x (d := K + 7) hb2.2.1, zfs]
      rw [show iI ((o + 1 : Nat) : Int) - 1 = iI (o : Nat) by rw [show (1 : Int32) = iI 1 from rfl, iI_sub]; congr 1; omega]
      exact mX65b_x hb3
    · exact ⟨σ, cGx w ht hb hn h (by decide) fun q => t4x (by omega) (by omega) q9 (fun _ => by omega) ho, zFr_r σ⟩
  case pos =>
  have mh : ∀ F m S σ, mOk t s m o S σ → ∃ τ, zFr Wmp σ τ ∧ mOk t (nx t s) m (o + 1) S τ ∧ mX K F σ = (zev (K + 8) 246 [.inr (.inr (0, 60))] τ).bind fun x1 => mX65b K F (zwI x1.2.2 0 60 22 ((x1.2.2.1 0 60 22) - 1)) := fun F m S σ h => by
    obtain ⟨τ, f1, f2, f3, f4⟩ := zm236t (d := K + 3) w h.1 (aTf_l ht.1).2 h.2.1
    have ok : mOk t (nx t s) m o S τ := ⟨f3, f4, mMm_f h.2.2 f2⟩
    refine ⟨zwI τ 0 60 22 (iI ((o + 1 : Nat) : Int)), zFr_tt (zFr_i f2 fun _ _ _ q => by omega) (zFr_w (by omega)), mOk_22 ok, ?_⟩
    rw [mX_s w h ht.1 q9 ho, if_pos q12, if_pos h3, mX65_e, f1]
    simp only [zbs, ok.2.2.1, hki1]
  have ch : ∀ c0 L R b σ, b ≤ s → cAt t 4 n c0 o L R σ → rR R → c0 + L.length + R.length + 4 ≤ s → ∃ τ, cLp d (iI b) (iI s) σ = cLp d (iI (aTf t s : Nat)) (iI (nx t s : Nat)) τ ∧ zFr (Wcd c0) σ τ ∧ cAt t 4 n c0 (o + 1) L (-12 :: R) τ ∧ rR (-12 :: R) ∧ c0 + L.length + (-12 :: R).length + 4 ≤ nx t s := fun c0 L R b σ hb h hr hk => by
    have tk := t4o (t := t) (d := d) (n := n) (c0 := c0) (L := L) (R := R) h3 (by omega)
    rw [← q12] at tk
    obtain ⟨τ, e1, e2, e3⟩ := cGo w ht hs hb hn h tk
    rw [q12] at e3
    refine ⟨τ, e1, e2, e3, fun u hu => ?_, by rw [List.length_cons]; omega⟩
    rcases List.mem_cons.mp hu with e | e
    · rw [e]; decide
    · exact hr u e
  have m1 : iI ((o + 1 : Nat) : Int) - 1 = iI (o : Nat) := by rw [show (1 : Int32) = iI 1 from rfl, iI_sub]; congr 1; omega
  rcases hC h3 (nx t s) t1 with ⟨s3, Bi, Ai, o1, o2, o3, o8, o4, o7, o5, o6⟩ | ⟨s3, o1, o5, o6⟩
  case inr =>
    refine Or.inr ⟨s3, o1, fun F m S σ h hm => ?_, fun c0 L R b σ hb h hr hk => ?_⟩
    · obtain ⟨τ, f1, f2, f3⟩ := mh F m S σ h
      obtain ⟨υ, y1, y2, y3⟩ := o5 m S τ f2 (by omega)
      have hb3 := mBd_22 (o2 := o) y3
      refine ⟨_, ?_, zFr_tt (zFr_tt (zFr_tt f1 y2) (zFr_w (by omega))) (zFr_w (by omega)), mBd_24 hb3⟩
      rw [f3, y1]
      simp only [zbs, y3.2.2, m1]
      exact mX65b_x hb3
    · obtain ⟨τ, e1, e2, e3, e4, e5⟩ := ch c0 L R b σ hb h hr hk
      obtain ⟨υ, y1, y2⟩ := o6 c0 L (-12 :: R) _ τ b1 e3 (show (-12 : Int) < -11 by decide) e4 e5
      exact ⟨υ, e1.trans y1, zFr_tt e2 y2⟩
  case inl =>
  have mi : ∀ F m S σ, mOk t s m o S σ → m + 4 ≤ s → ∃ τ, zFr Wmp σ τ ∧ mOk t s3 (m + Ai.length) o (aPut S m Ai) τ ∧ mX K F σ = mX65b K F τ := fun F m S σ h hm => by
    obtain ⟨τ, f1, f2, f3⟩ := mh F m S σ h
    obtain ⟨υ, y1, y2, y3⟩ := o5 m S τ f2 (by omega)
    refine ⟨_, zFr_tt (zFr_tt f1 y2) (zFr_w (by omega)), mOk_22 (o2 := o) y3, ?_⟩
    rw [f3, y1]
    simp only [zbs, y3.2.2.1, m1]
  have ci : ∀ c0 L R b σ, b ≤ s → cAt t 4 n c0 o L R σ → rR R → c0 + L.length + R.length + 4 ≤ s → ∃ b2 τ L2 R2, b2 ≤ s3 ∧ cLp d (iI b) (iI s) σ = cLp d (iI (b2 : Nat)) (iI (s3 : Nat)) τ ∧ zFr (Wcd c0) σ τ ∧ cAt t 7 n c0 (o + 1) L2 R2 τ ∧ dW (-11) R2 = -12 :: R ∧ L2 ++ pW (-11) R2 = L ++ Bi ∧ rR R2 ∧ c0 + L2.length + R2.length + 4 ≤ s3 := fun c0 L R b σ hb h hr hk => by
    obtain ⟨τ, e1, e2, e3, e4, e5⟩ := ch c0 L R b σ hb h hr hk
    obtain ⟨b2, υ, L2, R2, y1, y2, y3, y4, y5, y6, y7, y8⟩ := o6 c0 L (-12 :: R) _ τ b1 e3 (show (-12 : Int) < -11 by decide) e4 e5
    exact ⟨b2, υ, L2, R2, y1, e1.trans y2, zFr_tt e2 y3, y4, y5, y6, y7, y8⟩
  have r3 := aWe_r (t := t) (s := s3)
  by_cases q13 : aWe t s3 = -13
  case neg =>
    refine Or.inr ⟨s3, o1, fun F m S σ h hm => ?_, fun c0 L R b σ hb h hr hk => ?_⟩
    · obtain ⟨τ, f1, f2, f3⟩ := mi F m S σ h hm
      exact ⟨_, f3.trans (mX65b_n w f2 o1 q13), zFr_tt f1 (zFr_w (by omega)), mTk_24 f2.1, by rw [zfs]; rfl, by rw [zfe (by omega)]; exact f2.2.2.1⟩
    · obtain ⟨b2, τ, L2, R2, e1, e2, e3, e4, e5, e6, e7, e8⟩ := ci c0 L R b σ hb h hr hk
      exact ⟨τ, e2.trans (cGx w o2 e1 hn e4 (by decide) fun q => t7x (by omega) (o7 (-10) (by decide) (by decide)) (o7 (-11) (by decide) (by decide)) (fun z => absurd z q13) (fun _ => by omega) (by omega)), e3⟩
  case pos =>
  have hs3 : s3 < t.1 := aWe_s (by omega)
  have x3 := nx_g hs3
  have t3 := tS_nx o1
  have b3 : aTf t s3 ≤ nx t s3 := (aTs_l (aTf_l o1).2).1
  refine Or.inl ⟨nx t s3, 0, Bi, Ai, t3.1, t3, by omega, by omega, o4, fun F m S σ h hm => ?_, fun c0 L R b σ hb h hr hk => ?_⟩
  · obtain ⟨τ, f1, f2, f3⟩ := mi F m S σ h hm
    obtain ⟨υ, y1, y2, y3⟩ := mX65b_o (K := K) (F := F) w f2 o1 q13
    obtain ⟨φ, z1, z2, z3⟩ := mTl_o (K := K) (F := F) y2 (by omega)
    refine ⟨φ, f3.trans (y3.trans z1), zFr_tt (zFr_tt f1 y1) z2, ?_⟩
    rw [List.length_append, ← Nat.add_assoc, aPut_a]
    cases F <;> exact z3
  · obtain ⟨b2, τ, L2, R2, e1, e2, e3, e4, e5, e6, e7, e8⟩ := ci c0 L R b σ hb h hr hk
    have tk := t7c (t := t) (d := d) (n := n) (c0 := c0) (o := o) (L := L2) e5 e7 (by omega) (by omega)
    rw [← q13] at tk
    obtain ⟨υ, y1, y2, y3⟩ := cGo w o2 hs3 e1 hn e4 tk
    rw [e6] at y3
    have pl := pW_l (j := -11) R2
    have le := congrArg List.length e6
    rw [List.length_append] at le
    rw [e5, List.length_cons] at pl
    refine ⟨_, υ, b3, e2.trans y1, zFr_tt e3 y2, y3, ?_⟩
    show c0 + (L ++ Bi).length + R.length + 4 ≤ _
    omega
theorem one_i {t : zXt} {d n K o H : Nat} (w : wT t) (hn : n < 8) (ho : o ≤ 3) (hH : 2 ≤ H) (hC : o < 3 → ∀ s, tS t s → zOu t d n (o + 1) s H (-11) (zev (K + 8) 246 [.inr (.inr (0, 60))])) : ∀ (N s : Nat), t.1 ≤ s + N → tS t s → oOu t d n K o s H := by
  have hl := w.1
  intro N
  induction N with
  | zero =>
    intro s hN ht
    exact one_p w hn ho hH ht (by rw [aWe_e (by omega)]; decide) (by rw [aWe_e (by omega)]; decide)
  | succ N ih =>
    intro s hN ht
    by_cases q12 : aWe t s = -12
    · exact one_b w hn ho ht q12 hC
    by_cases q9 : aWe t s = -9
    case neg => exact one_p w hn ho hH ht q9 q12
    have hs : s < t.1 := aWe_s (by omega)
    have x1 := nx_g hs
    have n1 := nx_l ht.1
    have t1 := tS_nx ht.1
    have b1 : aTf t s ≤ nx t s := (aTs_l (aTf_l ht.1).2).1
    have ch : ∀ c0 L R b σ, b ≤ s → cAt t 4 n c0 o L R σ → rR R → c0 + L.length + R.length + 4 ≤ s → ∃ τ, cLp d (iI b) (iI s) σ = cLp d (iI (aTf t s : Nat)) (iI (nx t s : Nat)) τ ∧ zFr (Wcd c0) σ τ ∧ cAt t 4 n c0 o L (-9 :: R) τ ∧ rR (-9 :: R) ∧ c0 + L.length + (-9 :: R).length + 4 ≤ nx t s := fun c0 L R b σ hb h hr hk => by
      have tk := t4n (t := t) (d := d) (n := n) (c0 := c0) (o := o) (L := L) (R := R) (by omega)
      rw [← q9] at tk
      obtain ⟨τ, e1, e2, e3⟩ := cGo w ht hs hb hn h tk
      rw [q9] at e3
      refine ⟨τ, e1, e2, e3, fun u hu => ?_, by rw [List.length_cons]; omega⟩
      rcases List.mem_cons.mp hu with e | e
      · rw [e]; decide
      · exact hr u e
    rcases ih (nx t s) (by omega) t1 with ⟨s3, k, B, A, o1, o2, o3, o8, o4, o5, o6⟩ | ⟨s3, o1, o5, o6⟩
    · refine Or.inl ⟨s3, k + 1, B, A, o1, o2, by omega, by omega, o4, fun F m S σ h hm => ?_, fun c0 L R b σ hb h hr hk => ?_⟩
      · obtain ⟨τ, f1, f2, f3⟩ := mX_n (K := K) (F := F) w h ht.1 q9
        obtain ⟨υ, y1, y2, y3⟩ := o5 (!F) m S τ f2 (by omega)
        refine ⟨υ, f3.trans y1, zFr_tt f1 y2, ?_⟩
        have e : (F != oD (k + 1)) = ((!F) != oD k) := by
          show (F != (!oD k)) = ((!F) != oD k)
          cases F <;> cases oD k <;> rfl
        rw [e]
        exact y3
      · obtain ⟨τ, e1, e2, e3, e4, e5⟩ := ch c0 L R b σ hb h hr hk
        obtain ⟨b2, υ, y1, y2, y3, y4, y5⟩ := o6 c0 L (-9 :: R) _ τ b1 e3 e4 e5
        exact ⟨b2, υ, y1, e1.trans y2, zFr_tt e2 y3, y4, y5⟩
    · refine Or.inr ⟨s3, o1, fun F m S σ h hm => ?_, fun c0 L R b σ hb h hr hk => ?_⟩
      · obtain ⟨τ, f1, f2, f3⟩ := mX_n (K := K) (F := F) w h ht.1 q9
        obtain ⟨υ, y1, y2, y3⟩ := o5 (!F) m S τ f2 (by omega)
        exact ⟨υ, f3.trans y1, zFr_tt f1 y2, y3⟩
      · obtain ⟨τ, e1, e2, e3, e4, e5⟩ := ch c0 L R b σ hb h hr hk
        obtain ⟨υ, y1, y2⟩ := o6 c0 L (-9 :: R) _ τ b1 e3 e4 e5
        exact ⟨υ, e1.trans y1, zFr_tt e2 y2⟩
theorem oD_k : ∀ {k : Nat}, oD k = true → 1 ≤ k
  | 0, h => by cases h
  | k + 1, _ => by omega
theorem zOu_1 {t : zXt} {d n K o H s : Nat} (ht : tS t s) (h : oOu t d n K o s H) : zOu t d n o s H (-9) (zev (K + 9) 244 [.inr (.inr (0, 60))]) := by
  have eX : ∀ σ, zev (K + 9) 244 [.inr (.inr (0, 60))] σ = mX K false σ := fun σ => by
    rw [ez_244]; rfl
  rcases h with ⟨s3, k, B, A, o1, o2, o3, o8, o4, o5, o6⟩ | ⟨s3, o1, o5, o6⟩
  · refine Or.inl ⟨s3, B ++ nR k [], A ++ (bif oD k then [-20] else []), o1, o2, ?_, ?_, eqv_t o4 eqt_n, fun g g1 g2 => by omega, fun m S σ h hm => ?_, fun c0 L R b σ hb h hp hr hk => ?_⟩
    · rw [List.length_append]
      cases q : oD k
      · show A.length + 0 + s ≤ s3
        omega
      · have := oD_k q
        show A.length + 1 + s ≤ s3
        omega
    · rw [List.length_append, nR_l, List.length_nil]
      omega
    · obtain ⟨υ, y1, y2, y3⟩ := o5 false m S σ h hm
      refine ⟨υ, (eX σ).trans y1, y2, ?_⟩
      have e : (false != oD k) = oD k := by cases oD k <;> rfl
      rw [e] at y3
      exact y3
    · obtain ⟨b2, τ, e1, e2, e3, e4, e5⟩ := o6 c0 L R b σ hb h hr hk
      have p := nR_p k R
      have p0 := tp_0 hp
      exact ⟨b2, τ, L ++ B, nR k R, e1, e2, e3, e4, p.2.trans p0.2, by rw [p.1, p0.1, List.append_assoc], nR_z (by decide) k R hr, e5⟩
  · exact Or.inr ⟨s3, o1, fun m S σ h hm => by
      obtain ⟨υ, y1, y2, y3⟩ := o5 false m S σ h hm
      exact ⟨υ, (eX σ).trans y1, y2, y3⟩, fun c0 L R b σ hb h hp hr hk => o6 c0 L R b σ hb h hr hk⟩
theorem zOu_2 {t : zXt} {d n K o H : Nat} (w : wT t) (hn : n < 8) (h1 : ∀ s, tS t s → zOu t d n o s H (-9) (zev (K + 9) 244 [.inr (.inr (0, 60))])) : ∀ s, tS t s → zOu t d n o s (H + 1) (-10) (zev (K + 10) 245 [.inr (.inr (0, 60))]) := by
  have hl := w.1
  refine zOu_l (X := zrun (zev (K + 9)) zT_245 4 [some (.inr (.inr (0, 60)))] []) w (fun σ _ => by rw [ez_245]) (fun s σ hs h => lp_x (D := K + 3) (h0 := 1476) w (fun σ => by rw [ez_245_4]) h hs (by decide)) h1 (fun s ht hq => zLo_i (D := K + 3) (g := 11) (V := -21) w hn (by decide) rfl (Or.inl rfl) (fun B A h => eqt_and h) (fun σ => by rw [ez_245_4]; rfl) h1 t.1 s (by omega) ht hq)
theorem zOu_3 {t : zXt} {d n K o H : Nat} (w : wT t) (hn : n < 8) (h1 : ∀ s, tS t s → zOu t d n o s H (-10) (zev (K + 10) 245 [.inr (.inr (0, 60))])) : ∀ s, tS t s → zOu t d n o s (H + 1) (-11) (zev (K + 11) 246 [.inr (.inr (0, 60))]) := by
  have hl := w.1
  refine zOu_l (X := zrun (zev (K + 10)) zT_246 12 [some (.inr (.inr (0, 60)))] []) w (fun σ h => by rw [ez_246]; simp only [h, zBi, cond_false]) (fun s σ hs h => lp_x (D := K + 4) (h0 := 498) w (fun σ => by rw [ez_246_12]) h hs (by decide)) h1 (fun s ht hq => zLo_i (D := K + 4) (g := 12) (V := -22) w hn (by decide) rfl (Or.inr rfl) (fun B A h => eqt_or h) (fun σ => by rw [ez_246_12]; rfl) h1 t.1 s (by omega) ht hq)
theorem zOu_c {t : zXt} {d n K : Nat} (w : wT t) (hn : n < 8) : ∀ (D o : Nat), o + D = 3 → ∀ s, tS t s → zOu t d n o s (4 + 2 * D) (-11) (zev (K + 3 * D + 11) 246 [.inr (.inr (0, 60))])
  | 0, o, ho => zOu_3 (H := 3) w hn (zOu_2 (H := 2) w hn (fun s ht => zOu_1 ht (one_i w hn (by omega) (by decide) (fun q => by omega) t.1 s (by omega) ht)))
  | D + 1, o, ho => zOu_3 (K := K + 3 * D + 3) (H := 4 + 2 * D + 1) w hn (zOu_2 (H := 4 + 2 * D) w hn (fun s ht => zOu_1 ht (one_i (K := K + 3 * D + 3) w hn (by omega) (by omega) (fun q => zOu_c w hn D (o + 1) (by omega)) t.1 s (by omega) ht)))
