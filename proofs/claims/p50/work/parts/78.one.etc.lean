theorem cGo1 {t : zXt} {d u n c0 o s b : Nat} {L R : List Int} {σ τ : zM} (w : wT t) (ht : tS t s) (hs : s < t.1) (hb : b ≤ s) (hn : n < 8) (h : cAt t u n c0 o L R σ) (e1 : zev (d + 8) 49 [.inr (.inr (0, 33)), .inl (iI (aWe t s))] σ = some (1, 0, τ)) (e2 : zFr (Wcd c0) σ τ) : cLp d (iI b) (iI s) σ = cLp d (iI (aTf t s : Nat)) (iI (nx t s : Nat)) τ := by
  rw [aWe_d hs] at e1
  rw [cLp_t h.1 w hs (ht.2 hs) hb h.2.2.1 hn e1 (zFr_dr e2)]
  unfold nx
  rw [aTf_e hs]
noncomputable def mX (K : Nat) (F : Bool) (σ : zM) : zR := zrun (zev (K + 8)) zT_244 2 [some (.inr (.inr (0, 60))), some (.inl (zB F))] [] σ
noncomputable def mTl (K : Nat) (F : Bool) (σ : zM) : zR := bif F then ((zev (K + 8) 241 [.inr (.inr (0, 60)), .inl (-20)] σ).bind fun x => some (0, 0, x.2.2)) else some (0, 0, σ)
noncomputable def mX65 (K : Nat) (F : Bool) (p : Int32) (σ : zM) : zR := zrun (zev (K + 8)) zT_244 65 [some (.inr (.inr (0, 60))), some (.inl (zB F))] [.inl p, .inr (.inr (0, 60))] σ
theorem mTl_o {t : zXt} {K s m o : Nat} {F : Bool} {S : zS} {σ : zM} (h : mOk t s m o S σ) (hm : m < 200) : ∃ τ, mTl K F σ = some (0, 0, τ) ∧ zFr Wmp σ τ ∧ mOk t s (m + (bif F then [-20] else [] : List Int).length) o (aPut S m (bif F then [-20] else [])) τ := by
  cases F
  · exact ⟨σ, rfl, zFr_r σ, h⟩
  · obtain ⟨τ, e1, e2, e3⟩ := zm241 (d := K + 7) (p := -20) h hm
    refine ⟨τ, ?_, e2, e3⟩
    have e1 : zev (K + 8) 241 [.inr (.inr (0, 60)), .inl (-20)] σ = _ := e1
    show ((zev (K + 8) 241 [.inr (.inr (0, 60)), .inl (-20)] σ).bind fun x => some (0, 0, x.2.2)) = _
    rw [e1]
    rfl
theorem mTl_x {t : zXt} {K s o : Nat} {F : Bool} {σ : zM} (h : mBd t s o σ) : mTl K F σ = some (0, 0, σ) := by
  cases F
  · rfl
  · show ((zev (K + 8) 241 [.inr (.inr (0, 60)), .inl (-20)] σ).bind fun x => some (0, 0, x.2.2)) = _
    rw [zm241x (d := K + 7) h.2.1]
    rfl
theorem mX_n {t : zXt} {K s m o : Nat} {F : Bool} {S : zS} {σ : zM} (w : wT t) (h : mOk t s m o S σ) (hs : s ≤ t.1) (q : aWe t s = -9) : ∃ τ, zFr Wmp σ τ ∧ mOk t (nx t s) m o S τ ∧ mX K F σ = mX K (!F) τ := by
  obtain ⟨τ, f1, f2, f3, f4⟩ := zm236t (d := K + 3) w h.1 (aTf_l hs).2 h.2.1
  refine ⟨τ, zFr_i f2 fun _ _ _ q => by omega, ⟨f3, f4, mMm_f h.2.2 f2⟩, ?_⟩
  have k10 : (lg_cmp (aHs t s) 14836 = 0) = (aWe t s = -9) := aWe_k (g := 10) w hs (by decide)
  unfold mX
  rw [ez_244_2, zm237 (d := K + 4) w h.1 hs h.2.1]
  simp only [zbs, cond_false, k10, f1, zBi]
  rw [if_pos q]
  cases F <;> rfl
theorem mX_s {t : zXt} {K s m o : Nat} {F : Bool} {S : zS} {σ : zM} (w : wT t) (h : mOk t s m o S σ) (hs : s ≤ t.1) (q : aWe t s ≠ -9) (ho : o ≤ 3) : mX K F σ = if aWe t s = -12 then mX65 K F (if o < 3 then 1 else 0) σ else (zev (K + 8) 243 [.inr (.inr (0, 60))] σ).bind fun x => mTl K F x.2.2 := by
  have hl := w.1
  have hb := aBt_r w s
  have k10 : (lg_cmp (aHs t s) 14836 = 0) = (aWe t s = -9) := aWe_k (g := 10) w hs (by decide)
  have e40 : (iI (aBt t s) = 40) = (aWe t s = -12) := (iI_eq (b := 40) (by omega) (by decide)).trans aWe_40
  have e3 : (iI (o : Int) < 3) = ((o : Int) < 3) := iI_lt (b := 3) (by omega) (by decide)
  unfold mX mX65 mTl
  rw [ez_244_2, zm237 (d := K + 4) w h.1 hs h.2.1]
  simp only [zbs, cond_false, k10, h.2.1, zBi, h.1.2.1, zm232 (d := K + 7) h.1.1 w (show s ≤ 1000 by omega), e40, h.2.2.1, e3]
  rw [if_neg q]
  by_cases q2 : aWe t s = -12
  · rw [if_pos q2, if_pos q2]
    by_cases q3 : o < 3
    · rw [if_pos (by omega), if_pos q3]
    · rw [if_neg (by omega), if_neg q3]
  · rw [if_neg q2, if_neg q2]
noncomputable def mX65b (K : Nat) (F : Bool) (σ : zM) : zR := if σ.1 0 60 24 = 0 then ((zev (K + 8) 232 [.inr (.inr (0, 60)), .inl (σ.1 0 60 19)] σ).bind fun x2 => if x2.1 = 41 then ((zev (K + 8) 236 [.inr (.inr (0, 60)), .inl 1] x2.2.2).bind fun x3 => mTl K F x3.2.2) else ((zev (K + 8) 236 [.inr (.inr (0, 60)), .inl 0] x2.2.2).bind fun x5 => mTl K F x5.2.2)) else ((zev (K + 8) 236 [.inr (.inr (0, 60)), .inl 0] σ).bind fun x7 => mTl K F x7.2.2)
theorem mX65_e {K : Nat} {F : Bool} {p : Int32} {σ : zM} : mX65 K F p σ = (zev (K + 8) 236 [.inr (.inr (0, 60)), .inl p] σ).bind fun x0 => (zev (K + 8) 246 [.inr (.inr (0, 60))] (zwI x0.2.2 0 60 22 ((x0.2.2.1 0 60 22) + 1))).bind fun x1 => mX65b K F (zwI x1.2.2 0 60 22 ((x1.2.2.1 0 60 22) - 1)) := by
  unfold mX65 mX65b mTl
  rw [ez_244_65]
  simp only [zBi]
theorem mTk_22 {t : zXt} {s e : Nat} {v : Int32} {σ : zM} (h : mTk t s e σ) : mTk t s e (zwI σ 0 60 22 v) := ⟨⟨by rw [zfe (by omega)]; exact h.1.1, fun i hi => by rw [zfe (by omega)]; exact h.1.2 i hi⟩, by rw [zfe (by omega)]; exact h.2.1, by rw [zfe (by omega)]; exact h.2.2⟩
theorem mOk_22 {t : zXt} {s m o o2 : Nat} {S : zS} {σ : zM} (h : mOk t s m o S σ) : mOk t s m o2 S (zwI σ 0 60 22 (iI o2)) := ⟨mTk_22 h.1, by rw [zfe (by omega)]; exact h.2.1, zfs, by rw [zfe (by omega)]; exact h.2.2.2.1, mS_f h.2.2.2.2 (zfn (by omega))⟩
theorem mBd_22 {t : zXt} {s o o2 : Nat} {σ : zM} (h : mBd t s o σ) : mBd t s o2 (zwI σ 0 60 22 (iI o2)) := ⟨mTk_22 h.1, by rw [zfe (by omega)]; exact h.2.1, zfs⟩
theorem mX65b_x {t : zXt} {K s o : Nat} {F : Bool} {σ : zM} (h : mBd t s o σ) : mX65b K F σ = some (0, 0, zwI σ 0 60 24 1) := by
  unfold mX65b
  rw [h.2.1, if_neg (by decide), zm236x (d := K + 7) h.2.1]
  simp only [zbs]
  exact mTl_x (mBd_24 h)
theorem mX65b_n {t : zXt} {K s m o : Nat} {F : Bool} {S : zS} {σ : zM} (w : wT t) (h : mOk t s m o S σ) (hs : s ≤ t.1) (q : aWe t s ≠ -13) : mX65b K F σ = some (0, 0, zwI σ 0 60 24 1) := by
  have hl := w.1
  have hb := aBt_r w s
  have e41 : (iI (aBt t s) = 41) = (aWe t s = -13) := (iI_eq (b := 41) (by omega) (by decide)).trans aWe_41
  unfold mX65b
  rw [h.2.1, if_pos (by decide), h.1.2.1, zm232 (d := K + 7) h.1.1 w (show s ≤ 1000 by omega)]
  simp only [zbs, e41]
  rw [if_neg q, zm236f (d := K + 7) h.2.1]
  simp only [zbs]
  exact mTl_x (t := t) (s := s) (o := o) ⟨mTk_24 h.1, by rw [zfs]; rfl, by rw [zfe (by omega)]; exact h.2.2.1⟩
theorem mX65b_o {t : zXt} {K s m o : Nat} {F : Bool} {S : zS} {σ : zM} (w : wT t) (h : mOk t s m o S σ) (hs : s ≤ t.1) (q : aWe t s = -13) : ∃ τ, zFr Wmp σ τ ∧ mOk t (nx t s) m o S τ ∧ mX65b K F σ = mTl K F τ := by
  have hl := w.1
  have hb := aBt_r w s
  have e41 : (iI (aBt t s) = 41) = (aWe t s = -13) := (iI_eq (b := 41) (by omega) (by decide)).trans aWe_41
  obtain ⟨τ, f1, f2, f3, f4⟩ := zm236t (d := K + 3) w h.1 (aTf_l hs).2 h.2.1
  refine ⟨τ, zFr_i f2 fun _ _ _ q => by omega, ⟨f3, f4, mMm_f h.2.2 f2⟩, ?_⟩
  unfold mX65b
  rw [h.2.1, if_pos (by decide), h.1.2.1, zm232 (d := K + 7) h.1.1 w (show s ≤ 1000 by omega)]
  simp only [zbs, e41]
  rw [if_pos q, f1]
  rfl
theorem zm246x {d : Nat} {σ : zM} (hF : σ.1 0 60 24 = zB true) : zev (d + 1) 246 [.inr (.inr (0, 60))] σ = some (0, 0, σ) := by
  rw [ez_246]
  simp only [hF, zBi, cond_true]
def kOn (t : zXt) (d n o s s2 k : Nat) (B : List Int) : Prop := ∀ c0 L R b σ, b ≤ s → cAt t 4 n c0 o L R σ → rR R → c0 + L.length + R.length + 4 ≤ s → ∃ b2 τ, b2 ≤ s2 ∧ cLp d (iI b) (iI s) σ = cLp d (iI (b2 : Nat)) (iI (s2 : Nat)) τ ∧ zFr (Wcd c0) σ τ ∧ cAt t 7 n c0 o (L ++ B) (nR k R) τ ∧ c0 + (L ++ B).length + (nR k R).length + 4 ≤ s2
def kOx (t : zXt) (d n o s s2 : Nat) : Prop := ∀ c0 L R b σ, b ≤ s → cAt t 4 n c0 o L R σ → rR R → c0 + L.length + R.length + 4 ≤ s → ∃ τ, cLp d (iI b) (iI s) σ = some (iI (s2 : Nat), 0, τ) ∧ zFr (Wcd c0) σ τ
def oOu (t : zXt) (d n K o s H : Nat) : Prop := (∃ s2 k B A, s2 ≤ t.1 ∧ tS t s2 ∧ A.length + k + s ≤ s2 ∧ B.length + k + s ≤ s2 ∧ eqv H B A ∧ (∀ F, mGo t (mX K F) o s s2 (A ++ (bif F != oD k then [-20] else []))) ∧ kOn t d n o s s2 k B) ∨ (∃ s2, s2 ≤ t.1 ∧ (∀ F, mNo t (mX K F) o s s2) ∧ kOx t d n o s s2)
theorem one_p {t : zXt} {d n K o s H : Nat} (w : wT t) (hn : n < 8) (ho : o ≤ 3) (hH : 2 ≤ H) (ht : tS t s) (q9 : aWe t s ≠ -9) (q12 : aWe t s ≠ -12) : oOu t d n K o s H := by
  have hl := w.1
  have n1 := nx_l ht.1
  have n2 := nx_l n1.2
  have t1 := tS_nx ht.1
  have t2 := tS_nx t1.1
  have r1 := aWe_r (t := t) (s := s)
  have r2 := aWe_r (t := t) (s := nx t s)
  have r3 := aWe_r (t := t) (s := nx t (nx t s))
  have mm : ∀ F m S σ, mOk t s m o S σ → mX K F σ = (zev (K + 8) 243 [.inr (.inr (0, 60))] σ).bind fun x => mTl K F x.2.2 := fun F m S σ h => by
    rw [mX_s w h ht.1 q9 ho, if_neg q12]
  by_cases c1 : -5 ≤ aWe t s
  case neg =>
    refine Or.inr ⟨s, ht.1, fun F m S σ h hm => ?_, fun c0 L R b σ hb h hr hk => ?_⟩
    · obtain ⟨τ, e1, e2, -, e4, -⟩ := zm243 (d := K) w h ht.1 (by omega)
      refine ⟨τ, ?_, e2, e4 c1⟩
      rw [mm F m S σ h, e1]
      exact mTl_x (e4 c1)
    · exact ⟨σ, cGx w ht hb hn h (by decide) fun q => t4x (by omega) (by omega) q9 (fun z => absurd z q12) ho, zFr_r σ⟩
  case pos =>
  have hs : s < t.1 := aWe_s (by omega)
  have x1 := nx_g hs
  have st1 : ∀ c0 L R b σ, b ≤ s → cAt t 4 n c0 o L R σ → c0 + L.length + R.length + 4 ≤ s → ∃ τ, cLp d (iI b) (iI s) σ = cLp d (iI (aTf t s : Nat)) (iI (nx t s : Nat)) τ ∧ zFr (Wcd c0) σ τ ∧ cAt t 5 n c0 o (L ++ [aWe t s]) R τ := fun c0 L R b σ hb h hk => cGo w ht hs hb hn h (t4v ⟨c1, r1.2⟩ (by omega))
  have b1 : aTf t s ≤ nx t s := (aTs_l (aTf_l ht.1).2).1
  by_cases c2 : -8 ≤ aWe t (nx t s) ∧ aWe t (nx t s) ≤ -6
  case neg =>
    refine Or.inr ⟨nx t s, n1.2, fun F m S σ h hm => ?_, fun c0 L R b σ hb h hr hk => ?_⟩
    · obtain ⟨τ, e1, e2, -, -, e4, -⟩ := zm243 (d := K) w h ht.1 (by omega)
      refine ⟨τ, ?_, e2, e4 c1 c2⟩
      rw [mm F m S σ h, e1]
      exact mTl_x (e4 c1 c2)
    · obtain ⟨τ, e1, e2, e3⟩ := st1 c0 L R b σ hb h hk
      exact ⟨τ, e1.trans (cGx w t1 b1 hn e3 (by decide) fun q => t5x (by omega) c2), e2⟩
  case pos =>
  have hs1 : nx t s < t.1 := aWe_s (by omega)
  have x2 := nx_g hs1
  have b2 : aTf t (nx t s) ≤ nx t (nx t s) := (aTs_l (aTf_l t1.1).2).1
  have st2 : ∀ c0 L R b σ, b ≤ s → cAt t 4 n c0 o L R σ → c0 + L.length + R.length + 4 ≤ s → ∃ τ, cLp d (iI b) (iI s) σ = cLp d (iI (aTf t (nx t s) : Nat)) (iI (nx t (nx t s) : Nat)) τ ∧ zFr (Wcd c0) σ τ ∧ cAt t 6 n c0 o (L ++ [aWe t s]) R τ ∧ τ.1 0 33 2 = iI (aWe t (nx t s)) := fun c0 L R b σ hb h hk => by
    obtain ⟨τ, e1, e2, e3⟩ := st1 c0 L R b σ hb h hk
    obtain ⟨υ, y1, y2, y3, y4⟩ := t5s (d := d) e3 c2
    exact ⟨υ, e1.trans (cGo1 w t1 hs1 b1 hn e3 y1 y2), zFr_tt e2 y2, y3, y4⟩
  by_cases c3 : -5 ≤ aWe t (nx t (nx t s))
  case neg =>
    refine Or.inr ⟨nx t (nx t s), n2.2, fun F m S σ h hm => ?_, fun c0 L R b σ hb h hr hk => ?_⟩
    · obtain ⟨τ, e1, e2, -, -, -, e4⟩ := zm243 (d := K) w h ht.1 (by omega)
      refine ⟨τ, ?_, e2, e4 c1 c2 c3⟩
      rw [mm F m S σ h, e1]
      exact mTl_x (e4 c1 c2 c3)
    · obtain ⟨τ, e1, e2, e3, e4⟩ := st2 c0 L R b σ hb h hk
      exact ⟨τ, e1.trans (cGx w t2 b2 hn e3 (by decide) fun q => t6x (by omega) (by omega)), e2⟩
  case pos =>
  have hs2 : nx t (nx t s) < t.1 := aWe_s (by omega)
  have x3 := nx_g hs2
  have t3 := tS_nx t2.1
  have b3 : aTf t (nx t (nx t s)) ≤ nx t (nx t (nx t s)) := (aTs_l (aTf_l t2.1).2).1
  refine Or.inl ⟨nx t (nx t (nx t s)), 0, [aWe t s, aWe t (nx t (nx t s)), aWe t (nx t s)], [aWe t s, aWe t (nx t (nx t s)), aWe t (nx t s) - 5], t3.1, t3, ?_, ?_, eqv_m (eqv_p ⟨c1, r1.2⟩ ⟨c3, r3.2⟩ c2) hH, fun F m S σ h hm => ?_, fun c0 L R b σ hb h hr hk => ?_⟩
  · show 3 + 0 + s ≤ _
    omega
  · show 3 + 0 + s ≤ _
    omega
  · obtain ⟨τ, e1, e2, e3, -⟩ := zm243 (d := K) w h ht.1 (by omega)
    obtain ⟨υ, y1, y2, y3⟩ := mTl_o (K := K) (F := F) (e3 c1 c2 c3) (by omega)
    refine ⟨υ, ?_, zFr_tt e2 y2, ?_⟩
    · rw [mm F m S σ h, e1]
      exact y1
    · cases F <;> exact y3
  · obtain ⟨τ, e1, e2, e3, e4⟩ := st2 c0 L R b σ hb h hk
    have ll : (L ++ [aWe t s]).length = L.length + 1 := List.length_append
    obtain ⟨υ, y1, y2, y3⟩ := t6v (d := d) e3 e4 ⟨c3, r3.2⟩ (by omega)
    have la : L ++ [aWe t s] ++ [aWe t (nx t (nx t s))] ++ [aWe t (nx t s)] = L ++ [aWe t s, aWe t (nx t (nx t s)), aWe t (nx t s)] := by
      rw [List.append_assoc, List.append_assoc]; rfl
    rw [la] at y3
    refine ⟨_, υ, b3, e1.trans (cGo1 w t2 hs2 b2 hn e3 y1 y2), zFr_tt e2 y2, y3, ?_⟩
    rw [List.length_append]
    show c0 + (L.length + 3) + R.length + 4 ≤ _
    omega
theorem one_b {t : zXt} {d n K o s H : Nat} (w : wT t) (hn : n < 8) (ho : o ≤ 3) (ht : tS t s) (q12 : aWe t s = -12) (hC : o < 3 → ∀ s, tS t s → zOu t d n (o + 1) s H (-11) (zev (K + 8) 246 [.inr (.inr (0, 60))])) : oOu t d n K o s H := by
  have hl := w.1
  have q9 : aWe t s ≠ -9 := by omega
  have hs : s < t.1 := aWe_s (by omega)
  have x1 := nx_g hs
  have n1 := nx_l ht.1
  have t1 := tS_nx ht.1
  have b1 : aTf t s ≤ nx t s := (aTs_l (aTf_l ht.1).2).1
  by_cases h3 : o < 3
  case neg =>
    refine Or.inr ⟨s, ht.1, fun F m S σ h hm => ?_, fun c0 L R b σ hb h hr hk => ?_⟩
    · have hb : mBd t s o (zwI σ 0 60 24 1) := ⟨mTk_24 h.1, by rw [zfs]; rfl, by rw [zfe (by omega)]; exact h.2.2.1⟩
      have hb2 := mBd_22 (o2 := o + 1) hb
      have hb3 := mBd_22 (o2 := o) hb2
      refine ⟨_, ?_, zFr_tt (zFr_tt (zFr_tt (zFr_w (by omega)) (zFr_w (by omega))) (zFr_w (by omega))) (zFr_w (by omega)), mBd_24 hb3⟩
      rw [mX_s w h ht.1 q9 ho, if_pos q12, if_neg h3, mX65_e, zm236f (d := K + 7) h.2.1]
      simp only [zbs, hb.2.2, hki1, zm246x (d := K + 7) hb2.2.1, zfs]
      rw [show iI ((o + 1 : Nat) : Int) - 1 = iI (o : Nat) by rw [show (1 : Int32) = iI 1 from rfl, iI_sub]; congr 1; omega]
      exact mX65b_x hb3
    · exact ⟨σ, cGx w ht hb hn h (by decide) fun q => t4x (by omega) (by omega) q9 (fun _ => by omega) ho, zFr_r σ⟩
  case pos =>
  have mh : ∀ F m S σ, mOk t s m o S σ → ∃ τ, zFr Wmp σ τ ∧ mOk t (nx t s) m (o + 1) S τ ∧ mX K F σ = (zev (K + 8) 246 [.inr (.inr (0, 60))] τ).bind fun x1 => mX65b K F (zwI x1.2.2 0 60 22 ((x1.2.2.1 0 60 22) - 1)) := fun F m S σ h => by
    obtain ⟨τ, f1, f2, f3, f4⟩ := zm236t (d := K + 3) w h.1 (aTf_l ht.1).2 h.2.1
    have ok : mOk t (nx t s) m o S τ := ⟨f3, f4, mMm_f h.2.2 f2⟩
    refine ⟨zwI τ 0 60 22 (iI ((o + 1 : Nat) : Int)), zFr_tt (zFr_i f2 fun _ _ _ q => by omega) (zFr_w (by omega)), mOk_22 ok, ?_⟩
    rw [mX_s w h ht.1 q9 ho, if_pos q12, if_pos h3, mX65_e, f1]
    simp only [zbs, ok.2.2.1, hki1]
  have ch : ∀ c0 L R b σ, b ≤ s → cAt t 4 n c0 o L R σ → rR R → c0 + L.length + R.length + 4 ≤ s → ∃ τ, cLp d (iI b) (iI s) σ = cLp d (iI (aTf t s : Nat)) (iI (nx t s : Nat)) τ ∧ zFr (Wcd c0) σ τ ∧ cAt t 4 n c0 (o + 1) L (-12 :: R) τ ∧ rR (-12 :: R) ∧ c0 + L.length + (-12 :: R).length + 4 ≤ nx t s := fun c0 L R b σ hb h hr hk => by
    have tk := t4o (t := t) (d := d) (n := n) (c0 := c0) (L := L) (R := R) h3 (by omega)
    rw [← q12] at tk
    obtain ⟨τ, e1, e2, e3⟩ := cGo w ht hs hb hn h tk
    rw [q12] at e3
    refine ⟨τ, e1, e2, e3, fun u hu => ?_, by rw [List.length_cons]; omega⟩
    rcases List.mem_cons.mp hu with e | e
    · rw [e]; decide
    · exact hr u e
  have m1 : iI ((o + 1 : Nat) : Int) - 1 = iI (o : Nat) := by rw [show (1 : Int32) = iI 1 from rfl, iI_sub]; congr 1; omega
  rcases hC h3 (nx t s) t1 with ⟨s3, Bi, Ai, o1, o2, o3, o8, o4, o7, o5, o6⟩ | ⟨s3, o1, o5, o6⟩
  case inr =>
    refine Or.inr ⟨s3, o1, fun F m S σ h hm => ?_, fun c0 L R b σ hb h hr hk => ?_⟩
    · obtain ⟨τ, f1, f2, f3⟩ := mh F m S σ h
      obtain ⟨υ, y1, y2, y3⟩ := o5 m S τ f2 (by omega)
      have hb3 := mBd_22 (o2 := o) y3
      refine ⟨_, ?_, zFr_tt (zFr_tt (zFr_tt f1 y2) (zFr_w (by omega))) (zFr_w (by omega)), mBd_24 hb3⟩
      rw [f3, y1]
      simp only [zbs, y3.2.2, m1]
      exact mX65b_x hb3
    · obtain ⟨τ, e1, e2, e3, e4, e5⟩ := ch c0 L R b σ hb h hr hk
      obtain ⟨υ, y1, y2⟩ := o6 c0 L (-12 :: R) _ τ b1 e3 (show (-12 : Int) < -11 by decide) e4 e5
      exact ⟨υ, e1.trans y1, zFr_tt e2 y2⟩
  case inl =>
  have mi : ∀ F m S σ, mOk t s m o S σ → m + 4 ≤ s → ∃ τ, zFr Wmp σ τ ∧ mOk t s3 (m + Ai.length) o (aPut S m Ai) τ ∧ mX K F σ = mX65b K F τ := fun F m S σ h hm => by
    obtain ⟨τ, f1, f2, f3⟩ := mh F m S σ h
    obtain ⟨υ, y1, y2, y3⟩ := o5 m S τ f2 (by omega)
    refine ⟨_, zFr_tt (zFr_tt f1 y2) (zFr_w (by omega)), mOk_22 (o2 := o) y3, ?_⟩
    rw [f3, y1]
    simp only [zbs, y3.2.2.1, m1]
  have ci : ∀ c0 L R b σ, b ≤ s → cAt t 4 n c0 o L R σ → rR R → c0 + L.length + R.length + 4 ≤ s → ∃ b2 τ L2 R2, b2 ≤ s3 ∧ cLp d (iI b) (iI s) σ = cLp d (iI (b2 : Nat)) (iI (s3 : Nat)) τ ∧ zFr (Wcd c0) σ τ ∧ cAt t 7 n c0 (o + 1) L2 R2 τ ∧ dW (-11) R2 = -12 :: R ∧ L2 ++ pW (-11) R2 = L ++ Bi ∧ rR R2 ∧ c0 + L2.length + R2.length + 4 ≤ s3 := fun c0 L R b σ hb h hr hk => by
    obtain ⟨τ, e1, e2, e3, e4, e5⟩ := ch c0 L R b σ hb h hr hk
    obtain ⟨b2, υ, L2, R2, y1, y2, y3, y4, y5, y6, y7, y8⟩ := o6 c0 L (-12 :: R) _ τ b1 e3 (show (-12 : Int) < -11 by decide) e4 e5
    exact ⟨b2, υ, L2, R2, y1, e1.trans y2, zFr_tt e2 y3, y4, y5, y6, y7, y8⟩
  have r3 := aWe_r (t := t) (s := s3)
  by_cases q13 : aWe t s3 = -13
  case neg =>
    refine Or.inr ⟨s3, o1, fun F m S σ h hm => ?_, fun c0 L R b σ hb h hr hk => ?_⟩
    · obtain ⟨τ, f1, f2, f3⟩ := mi F m S σ h hm
      exact ⟨_, f3.trans (mX65b_n w f2 o1 q13), zFr_tt f1 (zFr_w (by omega)), mTk_24 f2.1, by rw [zfs]; rfl, by rw [zfe (by omega)]; exact f2.2.2.1⟩
    · obtain ⟨b2, τ, L2, R2, e1, e2, e3, e4, e5, e6, e7, e8⟩ := ci c0 L R b σ hb h hr hk
      exact ⟨τ, e2.trans (cGx w o2 e1 hn e4 (by decide) fun q => t7x (by omega) (o7 (-10) (by decide) (by decide)) (o7 (-11) (by decide) (by decide)) (fun z => absurd z q13) (fun _ => by omega) (by omega)), e3⟩
  case pos =>
  have hs3 : s3 < t.1 := aWe_s (by omega)
  have x3 := nx_g hs3
  have t3 := tS_nx o1
  have b3 : aTf t s3 ≤ nx t s3 := (aTs_l (aTf_l o1).2).1
  refine Or.inl ⟨nx t s3, 0, Bi, Ai, t3.1, t3, by omega, by omega, o4, fun F m S σ h hm => ?_, fun c0 L R b σ hb h hr hk => ?_⟩
  · obtain ⟨τ, f1, f2, f3⟩ := mi F m S σ h hm
    obtain ⟨υ, y1, y2, y3⟩ := mX65b_o (K := K) (F := F) w f2 o1 q13
    obtain ⟨φ, z1, z2, z3⟩ := mTl_o (K := K) (F := F) y2 (by omega)
    refine ⟨φ, f3.trans (y3.trans z1), zFr_tt (zFr_tt f1 y1) z2, ?_⟩
    rw [List.length_append, ← Nat.add_assoc, aPut_a]
    cases F <;> exact z3
  · obtain ⟨b2, τ, L2, R2, e1, e2, e3, e4, e5, e6, e7, e8⟩ := ci c0 L R b σ hb h hr hk
    have tk := t7c (t := t) (d := d) (n := n) (c0 := c0) (o := o) (L := L2) e5 e7 (by omega) (by omega)
    rw [← q13] at tk
    obtain ⟨υ, y1, y2, y3⟩ := cGo w o2 hs3 e1 hn e4 tk
    rw [e6] at y3
    have pl := pW_l (j := -11) R2
    have le := congrArg List.length e6
    rw [List.length_append] at le
    rw [e5, List.length_cons] at pl
    refine ⟨_, υ, b3, e2.trans y1, zFr_tt e3 y2, y3, ?_⟩
    show c0 + (L ++ Bi).length + R.length + 4 ≤ _
    omega
theorem one_i {t : zXt} {d n K o H : Nat} (w : wT t) (hn : n < 8) (ho : o ≤ 3) (hH : 2 ≤ H) (hC : o < 3 → ∀ s, tS t s → zOu t d n (o + 1) s H (-11) (zev (K + 8) 246 [.inr (.inr (0, 60))])) : ∀ (N s : Nat), t.1 ≤ s + N → tS t s → oOu t d n K o s H := by
  have hl := w.1
  intro N
  induction N with
  | zero =>
    intro s hN ht
    exact one_p w hn ho hH ht (by rw [aWe_e (by omega)]; decide) (by rw [aWe_e (by omega)]; decide)
  | succ N ih =>
    intro s hN ht
    by_cases q12 : aWe t s = -12
    · exact one_b w hn ho ht q12 hC
    by_cases q9 : aWe t s = -9
    case neg => exact one_p w hn ho hH ht q9 q12
    have hs : s < t.1 := aWe_s (by omega)
    have x1 := nx_g hs
    have n1 := nx_l ht.1
    have t1 := tS_nx ht.1
    have b1 : aTf t s ≤ nx t s := (aTs_l (aTf_l ht.1).2).1
    have ch : ∀ c0 L R b σ, b ≤ s → cAt t 4 n c0 o L R σ → rR R → c0 + L.length + R.length + 4 ≤ s → ∃ τ, cLp d (iI b) (iI s) σ = cLp d (iI (aTf t s : Nat)) (iI (nx t s : Nat)) τ ∧ zFr (Wcd c0) σ τ ∧ cAt t 4 n c0 o L (-9 :: R) τ ∧ rR (-9 :: R) ∧ c0 + L.length + (-9 :: R).length + 4 ≤ nx t s := fun c0 L R b σ hb h hr hk => by
      have tk := t4n (t := t) (d := d) (n := n) (c0 := c0) (o := o) (L := L) (R := R) (by omega)
      rw [← q9] at tk
      obtain ⟨τ, e1, e2, e3⟩ := cGo w ht hs hb hn h tk
      rw [q9] at e3
      refine ⟨τ, e1, e2, e3, fun u hu => ?_, by rw [List.length_cons]; omega⟩
      rcases List.mem_cons.mp hu with e | e
      · rw [e]; decide
      · exact hr u e
    rcases ih (nx t s) (by omega) t1 with ⟨s3, k, B, A, o1, o2, o3, o8, o4, o5, o6⟩ | ⟨s3, o1, o5, o6⟩
    · refine Or.inl ⟨s3, k + 1, B, A, o1, o2, by omega, by omega, o4, fun F m S σ h hm => ?_, fun c0 L R b σ hb h hr hk => ?_⟩
      · obtain ⟨τ, f1, f2, f3⟩ := mX_n (K := K) (F := F) w h ht.1 q9
        obtain ⟨υ, y1, y2, y3⟩ := o5 (!F) m S τ f2 (by omega)
        refine ⟨υ, f3.trans y1, zFr_tt f1 y2, ?_⟩
        have e : (F != oD (k + 1)) = ((!F) != oD k) := by
          show (F != (!oD k)) = ((!F) != oD k)
          cases F <;> cases oD k <;> rfl
        rw [e]
        exact y3
      · obtain ⟨τ, e1, e2, e3, e4, e5⟩ := ch c0 L R b σ hb h hr hk
        obtain ⟨b2, υ, y1, y2, y3, y4, y5⟩ := o6 c0 L (-9 :: R) _ τ b1 e3 e4 e5
        exact ⟨b2, υ, y1, e1.trans y2, zFr_tt e2 y3, y4, y5⟩
    · refine Or.inr ⟨s3, o1, fun F m S σ h hm => ?_, fun c0 L R b σ hb h hr hk => ?_⟩
      · obtain ⟨τ, f1, f2, f3⟩ := mX_n (K := K) (F := F) w h ht.1 q9
        obtain ⟨υ, y1, y2, y3⟩ := o5 (!F) m S τ f2 (by omega)
        exact ⟨υ, f3.trans y1, zFr_tt f1 y2, y3⟩
      · obtain ⟨τ, e1, e2, e3, e4, e5⟩ := ch c0 L R b σ hb h hr hk
        obtain ⟨υ, y1, y2⟩ := o6 c0 L (-9 :: R) _ τ b1 e3 e4 e5
        exact ⟨υ, e1.trans y1, zFr_tt e2 y2⟩
theorem oD_k : ∀ {k : Nat}, oD k = true → 1 ≤ k
  | 0, h => by cases h
  | k + 1, _ => by omega
theorem zOu_1 {t : zXt} {d n K o H s : Nat} (ht : tS t s) (h : oOu t d n K o s H) : zOu t d n o s H (-9) (zev (K + 9) 244 [.inr (.inr (0, 60))]) := by
  have eX : ∀ σ, zev (K + 9) 244 [.inr (.inr (0, 60))] σ = mX K false σ := fun σ => by
    rw [ez_244]; rfl
  rcases h with ⟨s3, k, B, A, o1, o2, o3, o8, o4, o5, o6⟩ | ⟨s3, o1, o5, o6⟩
  · refine Or.inl ⟨s3, B ++ nR k [], A ++ (bif oD k then [-20] else []), o1, o2, ?_, ?_, eqv_t o4 eqt_n, fun g g1 g2 => by omega, fun m S σ h hm => ?_, fun c0 L R b σ hb h hp hr hk => ?_⟩
    · rw [List.length_append]
      cases q : oD k
      · show A.length + 0 + s ≤ s3
        omega
      · have := oD_k q
        show A.length + 1 + s ≤ s3
        omega
    · rw [List.length_append, nR_l, List.length_nil]
      omega
    · obtain ⟨υ, y1, y2, y3⟩ := o5 false m S σ h hm
      refine ⟨υ, (eX σ).trans y1, y2, ?_⟩
      have e : (false != oD k) = oD k := by cases oD k <;> rfl
      rw [e] at y3
      exact y3
    · obtain ⟨b2, τ, e1, e2, e3, e4, e5⟩ := o6 c0 L R b σ hb h hr hk
      have p := nR_p k R
      have p0 := tp_0 hp
      exact ⟨b2, τ, L ++ B, nR k R, e1, e2, e3, e4, p.2.trans p0.2, by rw [p.1, p0.1, List.append_assoc], nR_z (by decide) k R hr, e5⟩
  · exact Or.inr ⟨s3, o1, fun m S σ h hm => by
      obtain ⟨υ, y1, y2, y3⟩ := o5 false m S σ h hm
      exact ⟨υ, (eX σ).trans y1, y2, y3⟩, fun c0 L R b σ hb h hp hr hk => o6 c0 L R b σ hb h hr hk⟩
theorem zOu_2 {t : zXt} {d n K o H : Nat} (w : wT t) (hn : n < 8) (h1 : ∀ s, tS t s → zOu t d n o s H (-9) (zev (K + 9) 244 [.inr (.inr (0, 60))])) : ∀ s, tS t s → zOu t d n o s (H + 1) (-10) (zev (K + 10) 245 [.inr (.inr (0, 60))]) := by
  have hl := w.1
  refine zOu_l (X := zrun (zev (K + 9)) zT_245 4 [some (.inr (.inr (0, 60)))] []) w (fun σ _ => by rw [ez_245]) (fun s σ hs h => lp_x (D := K + 3) (h0 := 1476) w (fun σ => by rw [ez_245_4]) h hs (by decide)) h1 (fun s ht hq => zLo_i (D := K + 3) (g := 11) (V := -21) w hn (by decide) rfl (Or.inl rfl) (fun B A h => eqt_and h) (fun σ => by rw [ez_245_4]; rfl) h1 t.1 s (by omega) ht hq)
theorem zOu_3 {t : zXt} {d n K o H : Nat} (w : wT t) (hn : n < 8) (h1 : ∀ s, tS t s → zOu t d n o s H (-10) (zev (K + 10) 245 [.inr (.inr (0, 60))])) : ∀ s, tS t s → zOu t d n o s (H + 1) (-11) (zev (K + 11) 246 [.inr (.inr (0, 60))]) := by
  have hl := w.1
  refine zOu_l (X := zrun (zev (K + 10)) zT_246 12 [some (.inr (.inr (0, 60)))] []) w (fun σ h => by rw [ez_246]; simp only [h, zBi, cond_false]) (fun s σ hs h => lp_x (D := K + 4) (h0 := 498) w (fun σ => by rw [ez_246_12]) h hs (by decide)) h1 (fun s ht hq => zLo_i (D := K + 4) (g := 12) (V := -22) w hn (by decide) rfl (Or.inr rfl) (fun B A h => eqt_or h) (fun σ => by rw [ez_246_12]; rfl) h1 t.1 s (by omega) ht hq)
theorem zOu_c {t : zXt} {d n K : Nat} (w : wT t) (hn : n < 8) : ∀ (D o : Nat), o + D = 3 → ∀ s, tS t s → zOu t d n o s (4 + 2 * D) (-11) (zev (K + 3 * D + 11) 246 [.inr (.inr (0, 60))])
  | 0, o, ho => zOu_3 (H := 3) w hn (zOu_2 (H := 2) w hn (fun s ht => zOu_1 ht (one_i w hn (by omega) (by decide) (fun q => by omega) t.1 s (by omega) ht)))
  | D + 1, o, ho => zOu_3 (K := K + 3 * D + 3) (H := 4 + 2 * D + 1) w hn (zOu_2 (H := 4 + 2 * D) w hn (fun s ht => zOu_1 ht (one_i (K := K + 3 * D + 3) w hn (by omega) (by omega) (fun q => zOu_c w hn D (o + 1) (by omega)) t.1 s (by omega) ht)))
theorem c49_0 {d : Nat} {W : Int32} {σ : zM} (h : σ.1 0 33 1 = iI (0 : Nat)) : zev (d + 8) 49 [.inr (.inr (0, 33)), .inl W] σ = (zev (d + 7) 50 [.inr (.inr (0, 33)), .inl W] σ).bind fun x => zgd (zret 3 x.1) (some (x.1, 0, x.2.2)) := by
  rw [ez_49, h]
  simp only
  rw [if_pos (show iI (0 : Nat) = 0 by decide)]
theorem c49_1 {d : Nat} {W : Int32} {σ : zM} (h : σ.1 0 33 1 = iI (1 : Nat)) : zev (d + 8) 49 [.inr (.inr (0, 33)), .inl W] σ = (zev (d + 7) 51 [.inr (.inr (0, 33)), .inl W] σ).bind fun x1 => if x1.1 = 0 then ((zev (d + 7) 52 [.inr (.inr (0, 33)), .inl W] x1.2.2).bind fun x2 => if x2.1 = 0 then (zgd (zret 3 0) (some (0, 0, x2.2.2))) else (zgd (zret 3 1) (some (1, 0, x2.2.2)))) else (zgd (zret 3 1) (some (1, 0, x1.2.2))) := by
  rw [ez_49, h]
  simp only
  rw [if_neg (show ¬ iI (1 : Nat) = 0 by decide), if_pos (show iI (1 : Nat) = 1 by decide)]
theorem c49_2 {d : Nat} {W : Int32} {σ : zM} (h : σ.1 0 33 1 = iI (2 : Nat)) : zev (d + 8) 49 [.inr (.inr (0, 33)), .inl W] σ = (zev (d + 7) 53 [.inr (.inr (0, 33)), .inl W] σ).bind fun x => zgd (zret 3 x.1) (some (x.1, 0, x.2.2)) := by
  rw [ez_49, h]
  simp only
  rw [if_neg (show ¬ iI (2 : Nat) = 0 by decide), if_neg (show ¬ iI (2 : Nat) = 1 by decide), if_pos (show iI (2 : Nat) = 2 by decide)]
theorem c49_3 {d : Nat} {W : Int32} {σ : zM} (h : σ.1 0 33 1 = iI (3 : Nat)) : zev (d + 8) 49 [.inr (.inr (0, 33)), .inl W] σ = (zev (d + 7) 54 [.inr (.inr (0, 33)), .inl W] σ).bind fun x => zgd (zret 3 x.1) (some (x.1, 0, x.2.2)) := by
  rw [ez_49, h]
  simp only
  rw [if_neg (show ¬ iI (3 : Nat) = 0 by decide), if_neg (show ¬ iI (3 : Nat) = 1 by decide), if_neg (show ¬ iI (3 : Nat) = 2 by decide), if_pos (show iI (3 : Nat) = 3 by decide)]
theorem wMem_0 {R : List Int} {σ : zM} {g k i : Nat} {v : Int32} (h : wMem σ R) (q : ¬ (g = 0 ∧ k = 34)) : wMem (zwI σ g k i v) R := wMem_f h (fun j _ => by rw [zfe (by omega)])
theorem cMm_4 {c0 o : Nat} {L R : List Int} {σ : zM} {k i : Nat} {v : Int32} (h : cMm c0 o L R σ) (hk : k ≠ 12) : cMm c0 o L R (zwI σ 4 k i v) := by
  obtain ⟨a1, a2, a3, a4, a5⟩ := h
  exact ⟨by rw [zfe (by omega)]; exact a1, by rw [zfe (by omega)]; exact a2, fun j hj => by rw [zfe (by omega)]; exact a3 j hj, by rw [zfe (by omega)]; exact a4, wMem_0 a5 (by omega)⟩
theorem t0k {t : zXt} {d n c0 o : Nat} {L R : List Int} {W : Int} {σ : zM} (h : cAt t 0 n c0 o L R σ) (hW : -25 ≤ W ∧ W ≤ -20) (hn : n < 8) : ∃ τ, zev (d + 8) 49 [.inr (.inr (0, 33)), .inl (iI W)] σ = some (1, 0, τ) ∧ zFr (fun g k i => (g = 4 ∧ k = 8 ∧ i = n) ∨ (g = 0 ∧ k = 33)) σ τ ∧ cAt t 1 n c0 o L R τ ∧ τ.1 4 8 n = iI (-20 - W) := by
  obtain ⟨h1, h2, h3, h4⟩ := h
  have ew : (-20 : Int32) - iI W = iI (-20 - W) := by rw [show (-20 : Int32) = iI (-20) by decide, iI_sub]
  have e141 : zev (d + 6) 141 [.inl (iI (-20 - W)), .inl 0, .inl 5] σ = some (zB (decide (0 ≤ -20 - W ∧ -20 - W ≤ 5)), 0, σ) := zc141 (l := 0) (h := 5) (by omega) (by decide) (by decide)
  have fr : zFr (fun g k i => (g = 4 ∧ k = 8 ∧ i = n) ∨ (g = 0 ∧ k = 33)) σ (zwI (zwI σ 4 8 n (iI (-20 - W))) 0 33 1 1) := zFr_tt (zFr_w (by omega)) (zFr_w (by omega))
  have e50 : zev (d + 7) 50 [.inr (.inr (0, 33)), .inl (iI W)] σ = some (1, 0, zwI (zwI σ 4 8 n (iI (-20 - W))) 0 33 1 1) := by
    rw [ez_50]
    simp only [ew, e141, zbs, zBi, decide_eq_true (show 0 ≤ -20 - W ∧ -20 - W ≤ 5 by omega), cond_true, h3, zgd_t (iI_ink (z := n) (k := n) rfl hn (by decide)), iI_Nn (show n ≤ 2147483647 by omega)]
    rw [zgd_t (by decide)]
  rw [c49_0 h2, e50]
  simp only [zbs]
  rw [zgd_t (by decide)]
  exact ⟨_, rfl, fr, ⟨cTp_f h1 (fr.1 _ _ _ (by omega)) (zFr_f fr (fun i => by omega)), by rw [zfs]; rfl, (fr.1 _ _ _ (by omega)).trans h3, cMm_u (cMm_4 h4 (by decide)) (Or.inl rfl)⟩, by rw [zfe (by omega), zfs]⟩
theorem t0x {t : zXt} {d n c0 o : Nat} {L R : List Int} {W : Int} (hW : zrn W) (h : ¬ (-25 ≤ W ∧ W ≤ -20)) (hW2 : -99 ≤ W ∧ W ≤ 9999) : cNo t d 0 n c0 o L R W := by
  intro σ ⟨h1, h2, h3, h4⟩
  have ew : (-20 : Int32) - iI W = iI (-20 - W) := by rw [show (-20 : Int32) = iI (-20) by decide, iI_sub]
  have e141 : zev (d + 6) 141 [.inl (iI (-20 - W)), .inl 0, .inl 5] σ = some (zB (decide (0 ≤ -20 - W ∧ -20 - W ≤ 5)), 0, σ) := zc141 (l := 0) (h := 5) (by omega) (by decide) (by decide)
  have e50 : zev (d + 7) 50 [.inr (.inr (0, 33)), .inl (iI W)] σ = some (0, 0, σ) := by
    rw [ez_50]
    simp only [ew, e141, zbs, zBi, decide_eq_false (show ¬ (0 ≤ -20 - W ∧ -20 - W ≤ 5) by omega), cond_false]
    rw [zgd_t (by decide)]
  rw [c49_0 h2, e50]
  simp only [zbs]
  rw [zgd_t (by decide)]
theorem t1i {t : zXt} {d n c0 o : Nat} {L R : List Int} : cTk t d 1 n c0 o L R (-15) 4 o L R := by
  intro σ ⟨h1, h2, h3, h4⟩
  have fr : zFr (Wcd c0) σ (zwI σ 0 33 1 4) := zFr_w (by omega)
  have e51 : zev (d + 7) 51 [.inr (.inr (0, 33)), .inl (iI (-15))] σ = some (1, 0, zwI σ 0 33 1 4) := by
    rw [ez_51]
    simp only
    rw [if_pos (show iI (-15) = -15 by decide), zgd_t (by decide)]
  rw [c49_1 h2, e51]
  simp only [zbs]
  rw [if_neg (by decide), zgd_t (by decide)]
  exact ⟨_, rfl, fr, cTp_d h1 fr, by rw [zfs]; rfl, (fr.1 _ _ _ (by omega)).trans h3, cMm_u h4 (Or.inl rfl)⟩
theorem c51_x {d : Nat} {W : Int} {σ : zM} (hW : zrn W) (h : W ≠ -15) : zev (d + 7) 51 [.inr (.inr (0, 33)), .inl (iI W)] σ = some (0, 0, σ) := by
  have e15 : (iI W = -15) = (W = -15) := by rw [show (-15 : Int32) = iI (-15) by decide]; exact iIm hW (by decide)
  rw [ez_51]
  simp only [e15]
  rw [if_neg h, zgd_t (by decide)]
theorem t1d {t : zXt} {d n c0 o : Nat} {L R : List Int} {W : Int} {σ : zM} (h : cAt t 1 n c0 o L R σ) (hW : W = -16 ∨ W = -17 ∨ W = -18) (hn : n < 8) (hu : ∀ u, u ∈ R → zrn u) (hk : c0 + L.length + R.length ≤ 200) : ∃ τ, zev (d + 8) 49 [.inr (.inr (0, 33)), .inl (iI W)] σ = some (1, 0, τ) ∧ zFr (Wdd c0) σ τ ∧ cAt t (if W = -18 then 3 else 2) n c0 o (L ++ pW (-11) R) (dW (-11) R) τ ∧ τ.1 4 9 n = iI W ∧ ∀ i, i ≠ n → τ.1 4 9 i = σ.1 4 9 i := by
  obtain ⟨τ, g1, g2⟩ := zc52 (d := d) h hW hn hu hk
  refine ⟨τ, ?_, g2⟩
  rw [c49_1 h.2.1, c51_x (by omega) (by omega)]
  simp only [zbs, g1]
  rw [if_pos trivial, if_neg (by decide), zgd_t (by decide)]
theorem t1x {t : zXt} {d n c0 o : Nat} {L R : List Int} {W : Int} (hW : zrn W) (h15 : W ≠ -15) (hd : ¬ (W = -16 ∨ W = -17 ∨ W = -18)) : cNo t d 1 n c0 o L R W := by
  intro σ ⟨h1, h2, h3, h4⟩
  have em : ∀ c : Int, zrn c → (iI W = iI c) = (W = c) := fun c hc => iIm hW hc
  have e16 : (iI W = -16) = (W = -16) := by rw [show (-16 : Int32) = iI (-16) by decide]; exact em (-16) (by decide)
  have e17 : (iI W = -17) = (W = -17) := by rw [show (-17 : Int32) = iI (-17) by decide]; exact em (-17) (by decide)
  have e18 : (iI W = -18) = (W = -18) := by rw [show (-18 : Int32) = iI (-18) by decide]; exact em (-18) (by decide)
  have e52 : zev (d + 7) 52 [.inr (.inr (0, 33)), .inl (iI W)] σ = some (0, 0, σ) := by
    rw [ez_52]
    simp only [e16, e17, e18]
    rw [if_neg (fun z => hd (Or.inl z)), if_neg (fun z => hd (Or.inr (Or.inl z))), if_neg (fun z => hd (Or.inr (Or.inr z))), zgd_t (by decide)]
  rw [c49_1 h2, c51_x hW h15]
  simp only [zbs, e52]
  rw [if_pos trivial, if_pos trivial, zgd_t (by decide)]
theorem t2a {t : zXt} {d n c0 o : Nat} {L R : List Int} {W : Int} {σ : zM} (h : cAt t 2 n c0 o L R σ) (hW : 0 ≤ W ∧ W ≤ 999) (hn : n < 8) : ∃ τ, zev (d + 8) 49 [.inr (.inr (0, 33)), .inl (iI W)] σ = some (1, 0, τ) ∧ zFr (fun g k i => (g = 4 ∧ k = 10 ∧ i = n) ∨ (g = 0 ∧ k = 33)) σ τ ∧ cAt t 3 n c0 o L R τ ∧ τ.1 4 10 n = iI W := by
  obtain ⟨h1, h2, h3, h4⟩ := h
  have e141 : zev (d + 6) 141 [.inl (iI W), .inl 0, .inl 999] σ = some (zB (decide (0 ≤ W ∧ W ≤ 999)), 0, σ) := zc141 (l := 0) (h := 999) (by omega) (by decide) (by decide)
  have fr : zFr (fun g k i => (g = 4 ∧ k = 10 ∧ i = n) ∨ (g = 0 ∧ k = 33)) σ (zwI (zwI σ 4 10 n (iI W)) 0 33 1 3) := zFr_tt (zFr_w (by omega)) (zFr_w (by omega))
  have e53 : zev (d + 7) 53 [.inr (.inr (0, 33)), .inl (iI W)] σ = some (1, 0, zwI (zwI σ 4 10 n (iI W)) 0 33 1 3) := by
    rw [ez_53]
    simp only [e141, zbs, zBi, decide_eq_true hW, cond_true, h3, zgd_t (iI_ink (z := n) (k := n) rfl hn (by decide)), iI_Nn (show n ≤ 2147483647 by omega)]
    rw [zgd_t (by decide)]
  rw [c49_2 h2, e53]
  simp only [zbs]
  rw [zgd_t (by decide)]
  exact ⟨_, rfl, fr, ⟨cTp_f h1 (fr.1 _ _ _ (by omega)) (zFr_f fr (fun i => by omega)), by rw [zfs]; rfl, (fr.1 _ _ _ (by omega)).trans h3, cMm_u (cMm_4 h4 (by decide)) (Or.inl rfl)⟩, by rw [zfe (by omega), zfs]⟩
theorem t2x {t : zXt} {d n c0 o : Nat} {L R : List Int} {W : Int} (hW : zrn W) (h : ¬ (0 ≤ W ∧ W ≤ 999)) : cNo t d 2 n c0 o L R W := by
  intro σ ⟨h1, h2, h3, h4⟩
  have e141 : zev (d + 6) 141 [.inl (iI W), .inl 0, .inl 999] σ = some (zB (decide (0 ≤ W ∧ W ≤ 999)), 0, σ) := zc141 (l := 0) (h := 999) (by omega) (by decide) (by decide)
  have e53 : zev (d + 7) 53 [.inr (.inr (0, 33)), .inl (iI W)] σ = some (0, 0, σ) := by
    rw [ez_53]
    simp only [e141, zbs, zBi, decide_eq_false h, cond_false]
    rw [zgd_t (by decide)]
  rw [c49_2 h2, e53]
  simp only [zbs]
  rw [zgd_t (by decide)]
theorem t3e {t : zXt} {d n c0 o : Nat} {L : List Int} {σ : zM} (h : cAt t 3 n c0 o L [] σ) (hn : n < 8) : ∃ τ, zev (d + 8) 49 [.inr (.inr (0, 33)), .inl (iI (-14))] σ = some (1, 0, τ) ∧ zFr (fun g k i => (g = 4 ∧ ((k = 11 ∧ i = n) ∨ (k = 7 ∧ i = 0))) ∨ (g = 0 ∧ k = 33)) σ τ ∧ cAt t 0 (n + 1) (c0 + L.length) o [] [] τ ∧ τ.1 4 11 n = iI (c0 + L.length : Nat) := by
  obtain ⟨h1, h2, h3, h4⟩ := h
  have h5 := h4.2.1
  have fr : zFr (fun g k i => (g = 4 ∧ ((k = 11 ∧ i = n) ∨ (k = 7 ∧ i = 0))) ∨ (g = 0 ∧ k = 33)) σ (zwI (zwI (zwI σ 4 11 n (iI (c0 + L.length : Nat))) 4 7 0 (iI (n + 1 : Nat))) 0 33 1 0) := zFr_tt (zFr_tt (zFr_w (by omega)) (zFr_w (by omega))) (zFr_w (by omega))
  have e54 : zev (d + 7) 54 [.inr (.inr (0, 33)), .inl (iI (-14))] σ = some (1, 0, zwI (zwI (zwI σ 4 11 n (iI (c0 + L.length : Nat))) 4 7 0 (iI (n + 1 : Nat))) 0 33 1 0) := by
    rw [ez_54]
    simp only [h3, h5, zgd_t (iI_ink (z := n) (k := n) rfl hn (by decide)), iI_Nn (show n ≤ 2147483647 by omega)]
    rw [if_pos (show iI (-14) = -14 by decide), zgd_t (by decide), zfe (by omega), h3, hki1]
  rw [c49_3 h2, e54]
  simp only [zbs]
  rw [zgd_t (by decide)]
  obtain ⟨a1, a2, a3, a4, a5⟩ := cMm_u (i := 1) (v := 0) (cMm_4 (k := 7) (i := 0) (v := iI (n + 1 : Nat)) (cMm_4 (k := 11) (i := n) (v := iI (c0 + L.length : Nat)) h4 (by decide)) (by decide)) (Or.inl rfl)
  exact ⟨_, rfl, fr, ⟨cTp_f h1 (fr.1 _ _ _ (by omega)) (zFr_f fr (fun i => by omega)), by rw [zfs]; rfl, by rw [zfe (by omega), zfs], a1, a2, fun i hi => absurd hi (Nat.not_lt_zero i), a4, a5⟩, by rw [zfe (by omega), zfe (by omega), zfs]⟩
theorem t3x {t : zXt} {d n c0 o : Nat} {L R : List Int} {W : Int} (hW : zrn W) (h : W ≠ -14) : cNo t d 3 n c0 o L R W := by
  intro σ ⟨h1, h2, h3, h4⟩
  have e14 : (iI W = -14) = (W = -14) := by rw [show (-14 : Int32) = iI (-14) by decide]; exact iIm hW (by decide)
  have e54 : zev (d + 7) 54 [.inr (.inr (0, 33)), .inl (iI W)] σ = some (0, 0, σ) := by
    rw [ez_54]
    simp only [e14]
    rw [if_neg h, zgd_t (by decide)]
  rw [c49_3 h2, e54]
  simp only [zbs]
  rw [zgd_t (by decide)]
abbrev Wmr : Nat → Nat → Nat → Prop := fun g k i => g = 0 ∧ ((k = 60 ∧ 19 ≤ i ∧ i ≤ 24) ∨ k = 61)
noncomputable def r26 (K : Nat) (a p : Int32) (σ : zM) : zR := zrun (zev (K + 20)) zT_247 26 [some (.inr (.inr (0, 60))), some (.inl a), none, none, none, none, none] [.inl p, .inr (.inr (0, 60))] σ
noncomputable def r49 (K : Nat) (a : Int32) (σ : zM) : zR := zrun (zev (K + 20)) zT_247 49 [some (.inr (.inr (0, 60))), some (.inl a), none, none, none, none, none] [] σ
noncomputable def r104 (K : Nat) (a c p : Int32) (σ : zM) : zR := zrun (zev (K + 20)) zT_247 104 [some (.inr (.inr (0, 60))), some (.inl a), none, none, some (.inl c), none, none] [.inl p, .inr (.inr (0, 60))] σ
noncomputable def r137 (K : Nat) (a c : Int32) (σ : zM) : zR := zrun (zev (K + 20)) zT_247 137 [some (.inr (.inr (0, 60))), some (.inl a), none, none, some (.inl c), none, none] [] σ
noncomputable def r169 (K : Nat) (a c e p : Int32) (σ : zM) : zR := zrun (zev (K + 20)) zT_247 169 [some (.inr (.inr (0, 60))), some (.inl a), none, none, some (.inl c), some (.inl e), none] [.inl p, .inr (.inr (0, 60))] σ
theorem r247_e {K : Nat} {σ : zM} : zev (K + 21) 247 [.inr (.inr (0, 60))] σ = (zev (K + 20) 239 [.inr (.inr (0, 60))] σ).bind fun x0 => if x0.1 < 0 then r26 K x0.1 0 x0.2.2 else if (x0.2.2.1 0 61 1) < 8 then r26 K x0.1 1 x0.2.2 else r26 K x0.1 0 x0.2.2 := by
  unfold r26
  rw [ez_247]
  simp only [ez_247_25]
theorem r26_e {K : Nat} {a p : Int32} {σ : zM} : r26 K a p σ = (zev (K + 20) 236 [.inr (.inr (0, 60)), .inl p] σ).bind fun x0 => (zev (K + 20) 237 [.inr (.inr (0, 60))] x0.2.2).bind fun x1 => if (lg_cmp x1.2.1 294) = 0 then ((zev (K + 20) 236 [.inr (.inr (0, 60)), .inl 1] x1.2.2).bind fun x2 => (zev (K + 20) 246 [.inr (.inr (0, 60))] x2.2.2).bind fun x3 => r49 K a x3.2.2) else r49 K a x1.2.2 := by
  unfold r26 r49
  rw [ez_247_26]
theorem r49_e {K : Nat} {a : Int32} {σ : zM} : r49 K a σ = (zev (K + 20) 237 [.inr (.inr (0, 60))] σ).bind fun x0 => if (lg_cmp x0.2.1 441925) = 0 then r104 K a 0 1 x0.2.2 else if (lg_cmp x0.2.1 398963) = 0 then r104 K a 1 1 x0.2.2 else if (lg_cmp x0.2.1 3764) = 0 then r104 K a 2 1 x0.2.2 else r104 K a (-1) 0 x0.2.2 := by
  have l0 : ((0 : Int32) < 0) = False := eq_false (by decide)
  have l1 : ((1 : Int32) < 0) = False := eq_false (by decide)
  have l2 : ((2 : Int32) < 0) = False := eq_false (by decide)
  have lm : ((-1 : Int32) < 0) = True := eq_true (by decide)
  unfold r49 r104
  rw [ez_247_49]
  simp only [ez_247_91, l0, l1, l2, lm, if_true, if_false]
theorem r104_e {K : Nat} {a c p : Int32} {σ : zM} : r104 K a c p σ = (zev (K + 20) 236 [.inr (.inr (0, 60)), .inl p] σ).bind fun x0 => if c < 0 then r137 K a c (zwI x0.2.2 0 60 21 0) else if c = 2 then r137 K a c (zwI x0.2.2 0 60 21 0) else if ((zwI x0.2.2 0 60 21 0).1 0 60 24) = 0 then ((zev (K + 20) 238 [.inr (.inr (0, 60)), .inl 999] (zwI x0.2.2 0 60 21 0)).bind fun x1 => r137 K a c x1.2.2) else r137 K a c (zwI x0.2.2 0 60 21 0) := by
  unfold r104 r137
  rw [ez_247_104]
theorem r137_e {K : Nat} {a c : Int32} {σ : zM} : r137 K a c σ = if (σ.1 0 60 24) = 0 then ((zev (K + 20) 232 [.inr (.inr (0, 60)), .inl (σ.1 0 60 19)] σ).bind fun x0 => if x0.1 = 59 then r169 K a c (σ.1 0 60 21) 1 x0.2.2 else r169 K a c (σ.1 0 60 21) 0 x0.2.2) else r169 K a c (σ.1 0 60 21) 0 σ := by
  unfold r137 r169
  rw [ez_247_137]
  simp only [ez_247_168]
theorem mBd_21 {t : zXt} {s o : Nat} {v : Int32} {σ : zM} (h : mBd t s o σ) : mBd t s o (zwI σ 0 60 21 v) := ⟨mTk_21 h.1, by rw [zfe (by omega)]; exact h.2.1, by rw [zfe (by omega)]; exact h.2.2⟩
theorem mOk_21 {t : zXt} {s m o : Nat} {S : zS} {v : Int32} {σ : zM} (h : mOk t s m o S σ) : mOk t s m o S (zwI σ 0 60 21 v) := ⟨mTk_21 h.1, by rw [zfe (by omega)]; exact h.2.1, by rw [zfe (by omega)]; exact h.2.2.1, by rw [zfe (by omega)]; exact h.2.2.2.1, mS_f h.2.2.2.2 (zfn (by omega))⟩
theorem mOk_x {t : zXt} {s m o : Nat} {S : zS} {σ : zM} (h : mOk t s m o S σ) : mBd t s o (zwI σ 0 60 24 1) := ⟨mTk_24 h.1, by rw [zfs]; rfl, by rw [zfe (by omega)]; exact h.2.2.1⟩
theorem r169x {t : zXt} {K s o : Nat} {a c e : Int32} {σ : zM} (h : mBd t s o σ) : r169 K a c e 0 σ = some (0, 0, zwI σ 0 60 24 1) := by
  unfold r169
  rw [ez_247_169, zm236x (d := K + 19) h.2.1]
  simp only [zbs, zfs]
  rw [if_neg (by decide)]
theorem r169f {t : zXt} {K s m o : Nat} {S : zS} {a c e : Int32} {σ : zM} (h : mOk t s m o S σ) : r169 K a c e 0 σ = some (0, 0, zwI σ 0 60 24 1) := by
  unfold r169
  rw [ez_247_169, zm236f (d := K + 19) h.2.1]
  simp only [zbs, zfs]
  rw [if_neg (by decide)]
theorem r137x {t : zXt} {K s o : Nat} {a c : Int32} {σ : zM} (h : mBd t s o σ) : r137 K a c σ = some (0, 0, zwI σ 0 60 24 1) := by
  rw [r137_e, h.2.1, if_neg (by decide), r169x h]
theorem r104x {t : zXt} {K s o : Nat} {a : Int32} {σ : zM} (h : mBd t s o σ) : ∃ τ, r104 K a (-1) 0 σ = some (0, 0, τ) ∧ zFr Wmp σ τ ∧ mBd t s o τ := by
  refine ⟨_, ?_, zFr_tt (zFr_tt (zFr_w (by omega)) (zFr_w (by omega))) (zFr_w (by omega)), mBd_24 (mBd_21 (v := 0) (mBd_24 h))⟩
  rw [r104_e, zm236x (d := K + 19) h.2.1]
  simp only [zbs]
  rw [if_pos (by decide)]
  exact r137x (mBd_21 (mBd_24 h))
theorem r104f {t : zXt} {K s m o : Nat} {S : zS} {a : Int32} {σ : zM} (h : mOk t s m o S σ) : ∃ τ, r104 K a (-1) 0 σ = some (0, 0, τ) ∧ zFr Wmp σ τ ∧ mBd t s o τ := by
  refine ⟨_, ?_, zFr_tt (zFr_tt (zFr_w (by omega)) (zFr_w (by omega))) (zFr_w (by omega)), mBd_24 (mBd_21 (v := 0) (mOk_x h))⟩
  rw [r104_e, zm236f (d := K + 19) h.2.1]
  simp only [zbs]
  rw [if_pos (by decide)]
  exact r137x (mBd_21 (mOk_x h))
theorem r49x {t : zXt} {K s o : Nat} {a : Int32} {σ : zM} (w : wT t) (hs : s ≤ t.1) (h : mBd t s o σ) : ∃ τ, r49 K a σ = some (0, 0, τ) ∧ zFr Wmp σ τ ∧ mBd t s o τ := by
  obtain ⟨τ, e1, e2⟩ := r104x (K := K) (a := a) h
  refine ⟨τ, ?_, e2⟩
  rw [r49_e, zm237 (d := K + 16) w h.1 hs h.2.1]
  simp only [zbs, cond_true]
  rw [if_neg (by decide), if_neg (by decide), if_neg (by decide)]
  exact e1
theorem r26f {t : zXt} {K s m o : Nat} {S : zS} {a : Int32} {σ : zM} (w : wT t) (hs : s ≤ t.1) (h : mOk t s m o S σ) : ∃ τ, r26 K a 0 σ = some (0, 0, τ) ∧ zFr Wmp σ τ ∧ mBd t s o τ := by
  have hb := mOk_x h
  obtain ⟨τ, e1, e2, e3⟩ := r49x (K := K) (a := a) w hs hb
  refine ⟨τ, ?_, zFr_tt (zFr_w (by omega)) e2, e3⟩
  rw [r26_e, zm236f (d := K + 19) h.2.1]
  simp only [zbs, zm237 (d := K + 16) w hb.1 hs hb.2.1, cond_true]
  rw [if_neg (by decide)]
  exact e1
theorem r49_o {t : zXt} {K s m o : Nat} {S : zS} {a : Int32} {σ : zM} (w : wT t) (hs : s ≤ t.1) (h : mOk t s m o S σ) : r49 K a σ = if aWe t s = -16 ∨ aWe t s = -17 ∨ aWe t s = -18 then r104 K a (iI (-16 - aWe t s)) 1 σ else r104 K a (-1) 0 σ := by
  have k6 : (lg_cmp (aHs t s) 441925 = 0) = (aWe t s = -16) := aWe_k (g := 6) w hs (by decide)
  have k7 : (lg_cmp (aHs t s) 398963 = 0) = (aWe t s = -17) := aWe_k (g := 7) w hs (by decide)
  have k8 : (lg_cmp (aHs t s) 3764 = 0) = (aWe t s = -18) := aWe_k (g := 8) w hs (by decide)
  rw [r49_e, zm237 (d := K + 16) w h.1 hs h.2.1]
  simp only [zbs, cond_false, k6, k7, k8]
  by_cases q6 : aWe t s = -16
  · rw [if_pos q6, if_pos (Or.inl q6), q6]; rfl
  · rw [if_neg q6]
    by_cases q7 : aWe t s = -17
    · rw [if_pos q7, if_pos (Or.inr (Or.inl q7)), q7]; rfl
    · rw [if_neg q7]
      by_cases q8 : aWe t s = -18
      · rw [if_pos q8, if_pos (Or.inr (Or.inr q8)), q8]; rfl
      · rw [if_neg q8, if_neg (by omega)]
def aRu (S : zS) (n : Nat) (a dd am : Int) (m : Nat) : zS := zup (zup (zup (zup (zup S (88 + 4 * n) a) (89 + 4 * n) dd) (90 + 4 * n) am) (91 + 4 * n) m) 1 ((n + 1 : Nat) : Int)
theorem r169_o {t : zXt} {K s m n : Nat} {S : zS} {a dd am : Int} {σ : zM} (w : wT t) (hs : s ≤ t.1) (hn : n < 8) (h : mOk t s m 0 S σ) (hS : S 1 = n) : ∃ τ, r169 K (iI a) (iI dd) (iI am) 1 σ = some (0, 0, τ) ∧ zFr Wmr σ τ ∧ mOk t (nx t s) m 0 (aRu S n a dd am m) τ := by
  obtain ⟨τ, f1, f2, f3, f4⟩ := zm236t (d := K + 15) w h.1 (aTf_l hs).2 h.2.1
  have ok := mMm_f h.2.2 f2
  have h1 : τ.1 0 61 1 = iI n := by rw [ok.2.2 1 (by decide), hS]
  have e : ∀ j : Nat, j < 4 → (88 + 4 * iI (n : Int)) + iI (j : Int) = iI ((88 + 4 * n + j : Nat) : Int) := fun j hj => by
    rw [show (88 : Int32) = iI 88 from rfl, show (4 : Int32) = iI 4 from rfl, iI_mul, iI_add, iI_add]; congr 1
  have e0 : (88 + 4 * iI (n : Int)) + 0 = iI ((88 + 4 * n : Nat) : Int) := e 0 (by decide)
  have e1 : (88 + 4 * iI (n : Int)) + 1 = iI ((88 + 4 * n + 1 : Nat) : Int) := e 1 (by decide)
  have e2 : (88 + 4 * iI (n : Int)) + 2 = iI ((88 + 4 * n + 2 : Nat) : Int) := e 2 (by decide)
  have e3 : (88 + 4 * iI (n : Int)) + 3 = iI ((88 + 4 * n + 3 : Nat) : Int) := e 3 (by decide)
  have hx : ∀ j : Nat, j < 4 → ∀ {x : zR}, zgd (zin (iI ((88 + 4 * n + j : Nat) : Int)) 320) x = x := fun j hj {x} => zgd_t (iI_ink (z := ((88 + 4 * n + j : Nat) : Int)) (k := 88 + 4 * n + j) rfl (show 88 + 4 * n + j < 320 by omega) (by decide))
  have hN : ∀ j : Nat, j < 4 → Int32.toNatClampNeg (iI ((88 + 4 * n + j : Nat) : Int)) = 88 + 4 * n + j := fun j hj => iI_Nn (by omega)
  have x0 : ∀ {x : zR}, zgd (zin (iI ((88 + 4 * n : Nat) : Int)) 320) x = x := fun {x} => hx 0 (by decide)
  have n0 : Int32.toNatClampNeg (iI ((88 + 4 * n : Nat) : Int)) = 88 + 4 * n := hN 0 (by decide)
  unfold r169
  rw [ez_247_169, f1]
  simp only [zbs, f4, h1, e0, e1, e2, e3, x0, hx 1 (by decide), hx 2 (by decide), hx 3 (by decide), n0, hN 1 (by decide), hN 2 (by decide), hN 3 (by decide)]
  rw [if_pos (by decide), zfe (by omega), zfe (by omega), zfe (by omega), ok.2.1, zfe (by omega), zfe (by omega), zfe (by omega), zfe (by omega), h1, hki1]
  refine ⟨_, rfl, zFr_tt (zFr_tt (zFr_tt (zFr_tt (zFr_tt (zFr_i f2 fun _ _ _ q => by omega) (zFr_w (by omega))) (zFr_w (by omega))) (zFr_w (by omega))) (zFr_w (by omega))) (zFr_w (by omega)), ?_, ?_, ?_, ?_, ?_⟩
  · refine ⟨⟨?_, fun i hi => ?_⟩, ?_, ?_⟩
    · rw [zfe (by omega), zfe (by omega), zfe (by omega), zfe (by omega), zfe (by omega)]; exact f3.1.1
    · rw [zfe (by omega), zfe (by omega), zfe (by omega), zfe (by omega), zfe (by omega)]; exact f3.1.2 i hi
    · rw [zfe (by omega), zfe (by omega), zfe (by omega), zfe (by omega), zfe (by omega)]; exact f3.2.1
    · rw [zfe (by omega), zfe (by omega), zfe (by omega), zfe (by omega), zfe (by omega)]; exact f3.2.2
  · rw [zfe (by omega), zfe (by omega), zfe (by omega), zfe (by omega), zfe (by omega)]; exact f4
  · rw [zfe (by omega), zfe (by omega), zfe (by omega), zfe (by omega), zfe (by omega)]; exact ok.1
  · rw [zfe (by omega), zfe (by omega), zfe (by omega), zfe (by omega), zfe (by omega)]; exact ok.2.1
  · unfold aRu
    rw [show 89 + 4 * n = 88 + 4 * n + 1 by omega, show 90 + 4 * n = 88 + 4 * n + 2 by omega, show 91 + 4 * n = 88 + 4 * n + 3 by omega]
    exact mS_w (mS_w (mS_w (mS_w (mS_w ok.2.2))))
theorem r137_o {t : zXt} {K s m : Nat} {S : zS} {a c e : Int32} {σ : zM} (w : wT t) (hs : s ≤ t.1) (h : mOk t s m 0 S σ) (he : σ.1 0 60 21 = e) : r137 K a c σ = if aWe t s = -14 then r169 K a c e 1 σ else r169 K a c e 0 σ := by
  have hl := w.1
  have hb := aBt_r w s
  have e59 : (iI (aBt t s) = 59) = (aWe t s = -14) := (iI_eq (b := 59) (by omega) (by decide)).trans aWe_59
  rw [r137_e, h.2.1, if_pos (by decide), h.1.2.1, zm232 (d := K + 19) h.1.1 w (show s ≤ 1000 by omega)]
  simp only [zbs, e59, he]
def dOu (t : zXt) (d n K : Nat) (dd : Int) (s3 : Nat) : Prop := (∃ s6 am, s6 ≤ t.1 ∧ tS t s6 ∧ nx t s3 ≤ s6 ∧ 0 ≤ am ∧ am ≤ 999 ∧ (∀ a m S σ, mOk t s3 m 0 S σ → S 1 = n → ∃ τ, r104 K (iI a) (iI dd) 1 σ = some (0, 0, τ) ∧ zFr Wmr σ τ ∧ mOk t s6 m 0 (aRu S n a dd am m) τ) ∧ (∀ c0 B b σ, b ≤ nx t s3 → cAt t (if dd = 2 then 3 else 2) n c0 0 B [] σ → ∃ b2 τ, b2 ≤ s6 ∧ cLp d (iI (b : Nat)) (iI (nx t s3 : Nat)) σ = cLp d (iI (b2 : Nat)) (iI (s6 : Nat)) τ ∧ zFr (fun g k i => (g = 4 ∧ (((k = 10 ∨ k = 11) ∧ i = n) ∨ (k = 7 ∧ i = 0))) ∨ (g = 0 ∧ k = 33)) σ τ ∧ cAt t 0 (n + 1) (c0 + B.length) 0 [] [] τ ∧ (dd < 2 → τ.1 4 10 n = iI am) ∧ τ.1 4 11 n = iI (c0 + B.length : Nat)))
  ∨ (∃ s6, s6 ≤ t.1 ∧ (∀ a m S σ, mOk t s3 m 0 S σ → ∃ τ, r104 K (iI a) (iI dd) 1 σ = some (0, 0, τ) ∧ zFr Wmr σ τ ∧ mBd t s6 0 τ) ∧ (∀ c0 B b σ, b ≤ nx t s3 → cAt t (if dd = 2 then 3 else 2) n c0 0 B [] σ → ∃ τ, cLp d (iI (b : Nat)) (iI (nx t s3 : Nat)) σ = some (iI (s6 : Nat), 0, τ) ∧ zFr (fun g k i => (g = 4 ∧ (((k = 10 ∨ k = 11) ∧ i = n) ∨ (k = 7 ∧ i = 0))) ∨ (g = 0 ∧ k = 33)) σ τ))
theorem zFr_mr {σ τ : zM} (f : zFr Wmp σ τ) : zFr Wmr σ τ := zFr_i f fun _ _ _ q => by omega
theorem dEn {t : zXt} {d n K : Nat} {dd am : Int} {s5 : Nat} (w : wT t) (hn : n < 8) (ht : tS t s5) : (aWe t s5 = -14 → (∀ a m S σ, mOk t s5 m 0 S σ → S 1 = n → σ.1 0 60 21 = iI am → ∃ τ, r137 K (iI a) (iI dd) σ = some (0, 0, τ) ∧ zFr Wmr σ τ ∧ mOk t (nx t s5) m 0 (aRu S n a dd am m) τ) ∧ (∀ c0 B b σ, b ≤ s5 → cAt t 3 n c0 0 B [] σ → ∃ τ, cLp d (iI (b : Nat)) (iI (s5 : Nat)) σ = cLp d (iI (aTf t s5 : Nat)) (iI (nx t s5 : Nat)) τ ∧ zFr (fun g k i => (g = 4 ∧ ((k = 11 ∧ i = n) ∨ (k = 7 ∧ i = 0))) ∨ (g = 0 ∧ k = 33)) σ τ ∧ cAt t 0 (n + 1) (c0 + B.length) 0 [] [] τ ∧ τ.1 4 11 n = iI (c0 + B.length : Nat)))
  ∧ (aWe t s5 ≠ -14 → (∀ a m S σ, mOk t s5 m 0 S σ → ∃ τ, r137 K (iI a) (iI dd) σ = some (0, 0, τ) ∧ zFr Wmr σ τ ∧ mBd t s5 0 τ) ∧ (∀ c0 B b σ, b ≤ s5 → cAt t 3 n c0 0 B [] σ → cLp d (iI (b : Nat)) (iI (s5 : Nat)) σ = some (iI (s5 : Nat), 0, σ))) := by
  have r5 := aWe_r (t := t) (s := s5)
  refine ⟨fun q => ⟨fun a m S σ h hS he => ?_, fun c0 B b σ hb h => ?_⟩, fun q => ⟨fun a m S σ h => ?_, fun c0 B b σ hb h => ?_⟩⟩
  · rw [r137_o w ht.1 h he, if_pos q]
    exact r169_o w ht.1 hn h hS
  · have hs : s5 < t.1 := aWe_s (by omega)
    obtain ⟨τ, e1, e2, e3, e4⟩ := t3e (d := d) h hn
    rw [← q] at e1
    refine ⟨τ, ?_, e2, e3, e4⟩
    rw [aWe_d hs] at e1
    rw [cLp_t h.1 w hs (ht.2 hs) hb h.2.2.1 hn e1 (zFr_i e2 fun _ _ _ q => by omega)]
    unfold nx
    rw [aTf_e hs]
  · refine ⟨zwI σ 0 60 24 1, ?_, zFr_w (by omega), mOk_x h⟩
    rw [r137_o w ht.1 h rfl, if_neg q]
    exact r169f h
  · exact cGx w ht hb hn h (by decide) fun _ => t3x (by omega) q
theorem dOu_i {t : zXt} {d n K s3 : Nat} {dd : Int} (w : wT t) (hn : n < 8) (hs : s3 < t.1) (hd : 0 ≤ dd ∧ dd ≤ 2) : dOu t d n K dd s3 := by
  have hl := w.1
  have t4 := tS_nx (t := t) (s := s3) (by omega)
  have b4 : aTf t (nx t s3) ≤ nx t (nx t s3) := (aTs_l (aTf_l t4.1).2).1
  have r4 := aWe_r (t := t) (s := nx t s3)
  have n4 := nx_l t4.1
  have lt0 : (iI dd < 0) = (dd < 0) := iI_lt0 (by omega)
  have eq2 : (iI dd = 2) = (dd = 2) := iI_eq (b := 2) (by omega) (by decide)
  have mh : ∀ (a : Int) m S σ, mOk t s3 m 0 S σ → ∃ τ, zFr Wmp σ τ ∧ mOk t (nx t s3) m 0 S τ ∧ τ.1 0 60 21 = iI 0 ∧ r104 K (iI a) (iI dd) 1 σ = if dd = 2 then r137 K (iI a) (iI dd) τ else (zev (K + 20) 238 [.inr (.inr (0, 60)), .inl 999] τ).bind fun x1 => r137 K (iI a) (iI dd) x1.2.2 := fun a m S σ h => by
    obtain ⟨τ, f1, f2, f3, f4⟩ := zm236t (d := K + 15) w h.1 (aTf_l (show s3 ≤ t.1 by omega)).2 h.2.1
    have ok : mOk t (nx t s3) m 0 S τ := ⟨f3, f4, mMm_f h.2.2 f2⟩
    have ok2 := mOk_21 (v := 0) ok
    refine ⟨_, zFr_tt (zFr_i f2 fun _ _ _ q => by omega) (zFr_w (by omega)), ok2, by rw [zfs]; rfl, ?_⟩
    rw [r104_e, f1]
    simp only [zbs, lt0, eq2]
    rw [if_neg (by omega), ok2.2.1]
    by_cases q : dd = 2
    · rw [if_pos q, if_pos q]
    · rw [if_neg q, if_neg q, if_pos (by decide)]
  by_cases q2 : dd = 2
  · obtain ⟨y1, y2⟩ := dEn (d := d) (n := n) (K := K) (dd := dd) (am := 0) w hn t4
    by_cases q : aWe t (nx t s3) = -14
    · obtain ⟨z1, z2⟩ := y1 q
      refine Or.inl ⟨nx t (nx t s3), 0, n4.2, tS_nx t4.1, n4.1, by decide, by decide, fun a m S σ h hS => ?_, fun c0 B b σ hb h => ?_⟩
      · obtain ⟨τ, f1, f2, f3, f4⟩ := mh a m S σ h
        obtain ⟨υ, x1, x2, x3⟩ := z1 a m S τ f2 hS f3
        rw [if_pos q2] at f4
        exact ⟨υ, f4.trans x1, zFr_tt (zFr_mr f1) x2, x3⟩
      · rw [if_pos q2] at h
        obtain ⟨τ, e1, e2, e3, e4⟩ := z2 c0 B b σ hb h
        exact ⟨_, τ, b4, e1, zFr_i e2 fun _ _ _ q => by omega, e3, fun z => by omega, e4⟩
    · obtain ⟨z1, z2⟩ := y2 q
      refine Or.inr ⟨nx t s3, t4.1, fun a m S σ h => ?_, fun c0 B b σ hb h => ?_⟩
      · obtain ⟨τ, f1, f2, f3, f4⟩ := mh a m S σ h
        obtain ⟨υ, x1, x2, x3⟩ := z1 a m S τ f2
        rw [if_pos q2] at f4
        exact ⟨υ, f4.trans x1, zFr_tt (zFr_mr f1) x2, x3⟩
      · rw [if_pos q2] at h
        exact ⟨σ, z2 c0 B b σ hb h, zFr_r σ⟩
  · by_cases qa : 0 ≤ aWe t (nx t s3) ∧ aWe t (nx t s3) ≤ 999
    case neg =>
      refine Or.inr ⟨nx t s3, t4.1, fun a m S σ h => ?_, fun c0 B b σ hb h => ?_⟩
      · obtain ⟨τ, f1, f2, f3, f4⟩ := mh a m S σ h
        obtain ⟨υ, y1, y2, -, y4⟩ := zm238 (d := K + 14) (a := 999) w f2.1 t4.1 f2.2.1 (by decide)
        have y1 : zev (K + 20) 238 [.inr (.inr (0, 60)), .inl 999] τ = some (0, 0, υ) := y1
        have hb : mBd t (nx t s3) 0 υ := ⟨(y4 qa).1, (y4 qa).2, (y2.1 _ _ _ (by omega)).trans f2.2.2.1⟩
        rw [if_neg q2, y1] at f4
        exact ⟨_, f4.trans (r137x hb), zFr_tt (zFr_tt (zFr_mr f1) (zFr_i y2 fun _ _ _ q => by omega)) (zFr_w (by omega)), mBd_24 hb⟩
      · rw [if_neg q2] at h
        exact ⟨σ, cGx w t4 hb hn h (by decide) fun _ => t2x (by omega) qa, zFr_r σ⟩
    case pos =>
    have hs4 : nx t s3 < t.1 := aWe_s (by omega)
    have t5 := tS_nx t4.1
    have b5 : aTf t (nx t (nx t s3)) ≤ nx t (nx t (nx t s3)) := (aTs_l (aTf_l t5.1).2).1
    have n5 := nx_l t5.1
    obtain ⟨y1, y2⟩ := dEn (d := d) (n := n) (K := K) (dd := dd) (am := aWe t (nx t s3)) w hn t5
    have mi : ∀ (a : Int) m S σ, mOk t s3 m 0 S σ → ∃ τ, zFr Wmr σ τ ∧ mOk t (nx t (nx t s3)) m 0 S τ ∧ τ.1 0 60 21 = iI (aWe t (nx t s3)) ∧ r104 K (iI a) (iI dd) 1 σ = r137 K (iI a) (iI dd) τ := fun a m S σ h => by
      obtain ⟨τ, f1, f2, f3, f4⟩ := mh a m S σ h
      obtain ⟨υ, y1, y2, y3, -⟩ := zm238 (d := K + 14) (a := 999) w f2.1 t4.1 f2.2.1 (by decide)
      have y1 : zev (K + 20) 238 [.inr (.inr (0, 60)), .inl 999] τ = some (0, 0, υ) := y1
      obtain ⟨x1, x2, x3⟩ := y3 qa
      rw [if_neg q2, y1] at f4
      exact ⟨υ, zFr_tt (zFr_mr f1) (zFr_i y2 fun _ _ _ q => by omega), ⟨x1, x2, mMm_n f2.2.2 y2⟩, x3, f4⟩
    have ci : ∀ c0 B b σ, b ≤ nx t s3 → cAt t 2 n c0 0 B [] σ → ∃ τ, cLp d (iI (b : Nat)) (iI (nx t s3 : Nat)) σ = cLp d (iI (aTf t (nx t s3) : Nat)) (iI (nx t (nx t s3) : Nat)) τ ∧ zFr (fun g k i => (g = 4 ∧ k = 10 ∧ i = n) ∨ (g = 0 ∧ k = 33)) σ τ ∧ cAt t 3 n c0 0 B [] τ ∧ τ.1 4 10 n = iI (aWe t (nx t s3)) := fun c0 B b σ hb h => by
      obtain ⟨τ, e1, e2, e3, e4⟩ := t2a (d := d) h qa hn
      refine ⟨τ, ?_, e2, e3, e4⟩
      rw [aWe_d hs4] at e1
      rw [cLp_t h.1 w hs4 (t4.2 hs4) hb h.2.2.1 hn e1 (zFr_i e2 fun _ _ _ q => by omega)]
      rw [← aTf_e hs4]
      rfl
    by_cases q : aWe t (nx t (nx t s3)) = -14
    · obtain ⟨z1, z2⟩ := y1 q
      refine Or.inl ⟨nx t (nx t (nx t s3)), aWe t (nx t s3), n5.2, tS_nx t5.1, by omega, qa.1, qa.2, fun a m S σ h hS => ?_, fun c0 B b σ hb h => ?_⟩
      · obtain ⟨τ, f1, f2, f3, f4⟩ := mi a m S σ h
        obtain ⟨υ, x1, x2, x3⟩ := z1 a m S τ f2 hS f3
        exact ⟨υ, f4.trans x1, zFr_tt f1 x2, x3⟩
      · rw [if_neg q2] at h
        obtain ⟨τ, e1, e2, e3, e4⟩ := ci c0 B b σ hb h
        obtain ⟨υ, x1, x2, x3, x4⟩ := z2 c0 B _ τ b4 e3
        exact ⟨_, υ, b5, e1.trans x1, zFr_tt (zFr_i e2 fun _ _ _ q => by omega) (zFr_i x2 fun _ _ _ q => by omega), x3, fun _ => (x2.1 _ _ _ (by omega)).trans e4, x4⟩
    · obtain ⟨z1, z2⟩ := y2 q
      refine Or.inr ⟨nx t (nx t s3), t5.1, fun a m S σ h => ?_, fun c0 B b σ hb h => ?_⟩
      · obtain ⟨τ, f1, f2, f3, f4⟩ := mi a m S σ h
        obtain ⟨υ, x1, x2, x3⟩ := z1 a m S τ f2
        exact ⟨υ, f4.trans x1, zFr_tt f1 x2, x3⟩
      · rw [if_neg q2] at h
        obtain ⟨τ, e1, e2, e3, e4⟩ := ci c0 B b σ hb h
        exact ⟨τ, e1.trans (z2 c0 B _ τ b4 e3), zFr_i e2 fun _ _ _ q => by omega⟩
theorem aPut_n : ∀ (A : List Int) (S : zS) (m i : Nat), i < 120 + m → aPut S m A i = S i
  | [], _, _, _, _ => rfl
  | a :: A, S, m, i, h => by
    show aPut (zup S (120 + m) a) (m + 1) A i = S i
    rw [aPut_n A _ (m + 1) i (by omega), zup_n (by omega)]
theorem aPut_g : ∀ (A : List Int) (S : zS) (m i : Nat), i < A.length → aPut S m A (120 + (m + i)) = A.getD i 0
  | [], _, _, _, h => absurd h (Nat.not_lt_zero _)
  | a :: A, S, m, 0, h => by
    show aPut (zup S (120 + m) a) (m + 1) A (120 + (m + 0)) = a
    rw [aPut_n A _ (m + 1) _ (by omega)]
    exact zup_s
  | a :: A, S, m, i + 1, h => by
    have h : i + 1 < A.length + 1 := h
    show aPut (zup S (120 + m) a) (m + 1) A (120 + (m + (i + 1))) = A.getD i 0
    rw [show m + (i + 1) = m + 1 + i by omega, aPut_g A _ (m + 1) i (by omega)]
def eqC (B A : List Int) : Prop := ∀ f : Nat → Int32, (zmL f A []).map zmE = some (zcE (zcL f B []))
theorem eqC_0 : eqC [] [] := fun _ => rfl
theorem eqC_v {H : Nat} {B A : List Int} (h : eqv H B A) (hH : H ≤ 16) : eqC B A := fun f => by
  obtain ⟨b, e1, e2⟩ := h f [] (by show 0 + H ≤ 16; omega)
  rw [e1, e2]
  cases b <;> decide
abbrev Wrr (n c0 : Nat) : Nat → Nat → Nat → Prop := fun g k i => (g = 4 ∧ ((k = 12 ∧ c0 ≤ i) ∨ ((k = 8 ∨ k = 9 ∨ k = 10 ∨ k = 11) ∧ i = n) ∨ (k = 7 ∧ i = 0))) ∨ (g = 0 ∧ (k = 33 ∨ k = 34))
def rGo (t : zXt) (d n K s s2 : Nat) (kd dd am : Int) (B A : List Int) : Prop := (∀ m S σ, mOk t s m 0 S σ → S 1 = n → m ≤ s → ∃ τ, zev (K + 21) 247 [.inr (.inr (0, 60))] σ = some (0, 0, τ) ∧ zFr Wmr σ τ ∧ mOk t s2 (m + A.length) 0 (aRu (aPut S m A) n kd dd am (m + A.length)) τ ∧ m + A.length ≤ s2) ∧ (∀ c0 b σ, b ≤ s → cAt t 0 n c0 0 [] [] σ → c0 ≤ s → ∃ b2 τ, b2 ≤ s2 ∧ cLp d (iI (b : Nat)) (iI (s : Nat)) σ = cLp d (iI (b2 : Nat)) (iI (s2 : Nat)) τ ∧ zFr (Wrr n c0) σ τ ∧ cAt t 0 (n + 1) (c0 + B.length) 0 [] [] τ ∧ τ.1 4 8 n = iI kd ∧ τ.1 4 9 n = iI (cD dd) ∧ (dd < 2 → τ.1 4 10 n = iI am) ∧ τ.1 4 11 n = iI (c0 + B.length : Nat) ∧ (∀ i, i < B.length → τ.1 4 12 (c0 + i) = iI (B.getD i 0)) ∧ c0 + B.length ≤ s2)
def rNo (t : zXt) (d n K s s2 : Nat) : Prop := (∀ m S σ, mOk t s m 0 S σ → S 1 = n → m ≤ s → ∃ τ, zev (K + 21) 247 [.inr (.inr (0, 60))] σ = some (0, 0, τ) ∧ zFr Wmr σ τ ∧ mBd t s2 0 τ) ∧ (∀ c0 b σ, b ≤ s → cAt t 0 n c0 0 [] [] σ → c0 ≤ s → ∃ τ, cLp d (iI (b : Nat)) (iI (s : Nat)) σ = some (iI (s2 : Nat), 0, τ) ∧ zFr Wrd σ τ)
def rOu (t : zXt) (d n K s : Nat) : Prop := (∃ s2 kd dd am B A, n < 8 ∧ s2 ≤ t.1 ∧ tS t s2 ∧ s < s2 ∧ 0 ≤ kd ∧ kd ≤ 5 ∧ 0 ≤ dd ∧ dd ≤ 2 ∧ 0 ≤ am ∧ am ≤ 999 ∧ eqC B A ∧ A.length + s ≤ s2 ∧ B.length + s ≤ s2 ∧ rGo t d n K s s2 kd dd am B A) ∨ (∃ s2, s2 ≤ t.1 ∧ rNo t d n K s s2)
theorem rule_d {t : zXt} {d n K s s3 u : Nat} {kd : Int} {B A : List Int} (w : wT t) (hn : n < 8) (ht3 : tS t s3) (hss : s ≤ s3) (hkd : 0 ≤ kd ∧ kd ≤ 5) (hE : eqC B A) (hA : A.length + s ≤ s3) (hB : B.length + s ≤ s3) (hu : (u = 1 ∧ aWe t s3 ≠ -15) ∨ (u = 7 ∧ nQ t (-11) s3))
  (hm : ∀ m S σ, mOk t s m 0 S σ → S 1 = n → m ≤ s → ∃ τ, zev (K + 21) 247 [.inr (.inr (0, 60))] σ = r49 K (iI kd) τ ∧ zFr Wmp σ τ ∧ mOk t s3 (m + A.length) 0 (aPut S m A) τ ∧ m + A.length ≤ s3)
  (hc : ∀ c0 b σ, b ≤ s → cAt t 0 n c0 0 [] [] σ → c0 ≤ s → ∃ b3 τ L R, b3 ≤ s3 ∧ cLp d (iI (b : Nat)) (iI (s : Nat)) σ = cLp d (iI (b3 : Nat)) (iI (s3 : Nat)) τ ∧ zFr (Wrr n c0) σ τ ∧ cAt t u n c0 0 L R τ ∧ dW (-11) R = [] ∧ L ++ pW (-11) R = B ∧ rR R ∧ c0 + L.length + R.length ≤ s3 ∧ τ.1 4 8 n = iI kd) : rOu t d n K s := by
  have hl := w.1
  have r3 := aWe_r (t := t) (s := s3)
  have h31 := ht3.1
  have S1 : ∀ (S : zS) m, (aPut S m A) 1 = S 1 := fun S m => aPut_n A S m 1 (by omega)
  by_cases qd : aWe t s3 = -16 ∨ aWe t s3 = -17 ∨ aWe t s3 = -18
  case neg =>
    refine Or.inr ⟨s3, h31, fun m S σ h hS hm1 => ?_, fun c0 b σ hb h hc0 => ?_⟩
    · obtain ⟨τ, f1, f2, f3, f4⟩ := hm m S σ h hS hm1
      obtain ⟨υ, y1, y2, y3⟩ := r104f (K := K) (a := iI kd) f3
      refine ⟨υ, ?_, zFr_tt (zFr_mr f2) (zFr_mr y2), y3⟩
      rw [f1, r49_o w h31 f3, if_neg qd, y1]
    · obtain ⟨b3, τ, L, R, e1, e2, e3, e4, e5, e6, e7, e8, e9⟩ := hc c0 b σ hb h hc0
      refine ⟨τ, e2.trans ?_, zFr_i e3 fun _ _ _ q => by omega⟩
      rcases hu with ⟨u1, u2⟩ | ⟨u1, u2⟩
      · subst u1
        exact cGx w ht3 e1 hn e4 (by decide) fun _ => t1x (by omega) u2 qd
      · subst u1
        exact cGx w ht3 e1 hn e4 (by decide) fun _ => t7x (by omega) (u2 (-10) (by decide) (by decide)) (u2 (-11) (by decide) (by decide)) (fun _ => rfl) (fun z => absurd z qd) (by decide)
  case pos =>
  have hs3 : s3 < t.1 := aWe_s (by omega)
  have x3 := nx_g hs3
  have b3' : aTf t s3 ≤ nx t s3 := (aTs_l (aTf_l h31).2).1
  have ci : ∀ c0 b σ, b ≤ s → cAt t 0 n c0 0 [] [] σ → c0 ≤ s → ∃ τ, cLp d (iI (b : Nat)) (iI (s : Nat)) σ = cLp d (iI (aTf t s3 : Nat)) (iI (nx t s3 : Nat)) τ ∧ zFr (Wrr n c0) σ τ ∧ cAt t (if -16 - aWe t s3 = 2 then 3 else 2) n c0 0 B [] τ ∧ τ.1 4 8 n = iI kd ∧ τ.1 4 9 n = iI (aWe t s3) ∧ c0 + B.length ≤ s3 := fun c0 b σ hb h hc0 => by
    obtain ⟨b3, τ, L, R, e1, e2, e3, e4, e5, e6, e7, e8, e9⟩ := hc c0 b σ hb h hc0
    have pl := pW_l (j := -11) R
    have le := congrArg List.length e6
    rw [List.length_append] at le
    rw [e5, List.length_nil] at pl
    have tk : ∃ υ, zev (d + 8) 49 [.inr (.inr (0, 33)), .inl (iI (aWe t s3))] τ = some (1, 0, υ) ∧ zFr (Wdd c0) τ υ ∧ cAt t (if aWe t s3 = -18 then 3 else 2) n c0 0 (L ++ pW (-11) R) (dW (-11) R) υ ∧ υ.1 4 9 n = iI (aWe t s3) ∧ ∀ i, i ≠ n → υ.1 4 9 i = τ.1 4 9 i := by
      rcases hu with ⟨u1, -⟩ | ⟨u1, -⟩
      · subst u1
        exact t1d e4 qd hn e7 (by omega)
      · subst u1
        exact t7d e4 qd hn e7 (by omega)
    obtain ⟨υ, y1, y2, y3, y4, y5⟩ := tk
    rw [e5, e6] at y3
    have fr : zFr (Wrr n c0) τ υ := ⟨fun g k i q => by
      by_cases z : g = 4 ∧ k = 9
      · rw [z.1, z.2]
        exact y5 i (by omega)
      · exact y2.1 g k i (by omega), y2.2⟩
    refine ⟨υ, e2.trans ?_, zFr_tt e3 fr, ?_, (y2.1 _ _ _ (by omega)).trans e9, y4, by omega⟩
    · rw [aWe_d hs3] at y1
      rw [cLp_t e4.1 w hs3 (ht3.2 hs3) e1 e4.2.2.1 hn y1 (zFr_i fr fun _ _ _ q => by omega), ← aTf_e hs3]
      rfl
    · by_cases z : aWe t s3 = -18
      · rw [if_pos z] at y3
        rw [if_pos (by omega)]
        exact y3
      · rw [if_neg z] at y3
        rw [if_neg (by omega)]
        exact y3
  have mi : ∀ m S σ, mOk t s m 0 S σ → S 1 = n → m ≤ s → ∃ τ, zev (K + 21) 247 [.inr (.inr (0, 60))] σ = r104 K (iI kd) (iI (-16 - aWe t s3)) 1 τ ∧ zFr Wmp σ τ ∧ mOk t s3 (m + A.length) 0 (aPut S m A) τ ∧ m + A.length ≤ s3 := fun m S σ h hS hm1 => by
    obtain ⟨τ, f1, f2, f3, f4⟩ := hm m S σ h hS hm1
    exact ⟨τ, by rw [f1, r49_o w h31 f3, if_pos qd], f2, f3, f4⟩
  rcases dOu_i (d := d) (n := n) (K := K) (dd := -16 - aWe t s3) w hn hs3 (by omega) with ⟨s6, am, o1, o2, o3, o4, o5, o6, o7⟩ | ⟨s6, o1, o6, o7⟩
  · refine Or.inl ⟨s6, kd, -16 - aWe t s3, am, B, A, hn, o1, o2, by omega, hkd.1, hkd.2, by omega, by omega, o4, o5, hE, by omega, by omega, fun m S σ h hS hm1 => ?_, fun c0 b σ hb h hc0 => ?_⟩
    · obtain ⟨τ, f1, f2, f3, f4⟩ := mi m S σ h hS hm1
      obtain ⟨υ, y1, y2, y3⟩ := o6 kd _ _ τ f3 ((S1 S m).trans hS)
      exact ⟨υ, f1.trans y1, zFr_tt (zFr_mr f2) y2, y3, by omega⟩
    · obtain ⟨τ, e1, e2, e3, e4, e5, e6⟩ := ci c0 b σ hb h hc0
      obtain ⟨b2, υ, y1, y2, y3, y4, y5, y6⟩ := o7 c0 B _ τ b3' e3
      have cc : cD (-16 - aWe t s3) = aWe t s3 := by unfold cD; omega
      exact ⟨b2, υ, y1, e1.trans y2, zFr_tt e2 (zFr_i y3 fun _ _ _ q => by omega), y4, (y3.1 _ _ _ (by omega)).trans e4, by rw [cc]; exact (y3.1 _ _ _ (by omega)).trans e5, y5, y6, fun i hi => (y3.1 _ _ _ (by omega)).trans (e3.2.2.2.2.2.1 i hi), by omega⟩
  · refine Or.inr ⟨s6, o1, fun m S σ h hS hm1 => ?_, fun c0 b σ hb h hc0 => ?_⟩
    · obtain ⟨τ, f1, f2, f3, f4⟩ := mi m S σ h hS hm1
      obtain ⟨υ, y1, y2, y3⟩ := o6 kd _ _ τ f3
      exact ⟨υ, f1.trans y1, zFr_tt (zFr_mr f2) y2, y3⟩
    · obtain ⟨τ, e1, e2, e3, e4, e5, e6⟩ := ci c0 b σ hb h hc0
      obtain ⟨υ, y1, y2⟩ := o7 c0 B _ τ b3' e3
      exact ⟨υ, e1.trans y1, zFr_tt (zFr_i e2 fun _ _ _ q => by omega) (zFr_i y2 fun _ _ _ q => by omega)⟩
theorem aWe_len {t : zXt} {s g : Nat} (w : wT t) (hs : s ≤ t.1) (hg : g < 18) (q : aWe t s = zCd.getD g 0) : s + (zSL.getD g []).length ≤ nx t s := by
  have e := aWe_k (g := g) w hs hg
  rw [aHs_is w hs hg] at e
  obtain ⟨h1, h2, h3⟩ : s < t.1 ∧ aLt (t.2 s) = true ∧ aIs t s g = true := by rw [e]; exact q
  unfold aIs at h3
  rw [Bool.and_eq_true] at h3
  have h4 : aTe t s - s = (zSL.getD g []).length := of_decide_eq_true h3.1
  have h5 := aTe_l h1
  have h6 := aTs_l (t := t) (p := aTf t s) (by rw [aTf_e h1]; exact h5.2)
  rw [aTf_e h1] at h6
  unfold nx
  rw [aTf_e h1]
  omega
theorem zSL_k : ∀ g, g < 6 → 3 ≤ (zSL.getD g []).length ∧ zCd.getD g 0 = -20 - (g : Int) := by decide +kernel
theorem zSL_if : (zSL.getD 9 []).length = 2 := by decide +kernel
theorem rOu_i {t : zXt} {d n K s : Nat} (w : wT t) (hn8 : n ≤ 8) (ht : tS t s) (hs : s < t.1) : rOu t d n K s := by
  have hl := w.1
  have r0 := aWe_r (t := t) (s := s)
  have e8 : (iI (n : Int) < 8) = ((n : Int) < 8) := iI_lt (b := 8) (by omega) (by decide)
  have m0 : ∀ m S σ, mOk t s m 0 S σ → S 1 = n → zev (K + 21) 247 [.inr (.inr (0, 60))] σ = if -25 ≤ aWe t s ∧ aWe t s ≤ -20 ∧ n < 8 then r26 K (iI (-20 - aWe t s)) 1 σ else r26 K (iI (if -25 ≤ aWe t s ∧ aWe t s ≤ -20 then -20 - aWe t s else -1)) 0 σ := fun m S σ h hS => by
    have lt0 : (iI (if -25 ≤ aWe t s ∧ aWe t s ≤ -20 then -20 - aWe t s else -1) < 0) = ((if -25 ≤ aWe t s ∧ aWe t s ≤ -20 then -20 - aWe t s else -1) < 0) := iI_lt0 (by split <;> omega)
    have h1 : σ.1 0 61 1 = iI n := by rw [h.2.2.2.2 1 (by decide), hS]
    rw [r247_e, zm239 (d := K + 15) w h.1 ht.1 h.2.1]
    simp only [zbs, lt0, h1, e8]
    by_cases q : -25 ≤ aWe t s ∧ aWe t s ≤ -20
    · rw [if_pos q, if_neg (by omega)]
      by_cases q8 : n < 8
      · rw [if_pos (by omega), if_pos ⟨q.1, q.2, q8⟩]
      · rw [if_neg (by omega), if_neg (fun z => q8 z.2.2)]
    · rw [if_neg q, if_pos (by decide), if_neg (fun z => q ⟨z.1, z.2.1⟩)]
  by_cases qk : -25 ≤ aWe t s ∧ aWe t s ≤ -20 ∧ n < 8
  case neg =>
    refine Or.inr ⟨s, ht.1, fun m S σ h hS hm1 => ?_, fun c0 b σ hb h hc0 => ⟨σ, ?_, zFr_r σ⟩⟩
    · obtain ⟨τ, e1, e2, e3⟩ := r26f (K := K) (a := iI (if -25 ≤ aWe t s ∧ aWe t s ≤ -20 then -20 - aWe t s else -1)) w ht.1 h
      refine ⟨τ, ?_, zFr_mr e2, e3⟩
      rw [m0 m S σ h hS, if_neg qk, e1]
    · by_cases q8 : n < 8
      · exact cGn w ht hs hb q8 h (t0x (by omega) (fun z => qk ⟨z.1, z.2, q8⟩) r0)
      · exact cLp_9 h.1 w hs (ht.2 hs) hb h.2.2.1 q8 hn8
  case pos =>
  have hn : n < 8 := qk.2.2
  have x1 := nx_g hs
  have n1 := nx_l ht.1
  have t1 := tS_nx ht.1
  have b1 : aTf t s ≤ nx t s := (aTs_l (aTf_l ht.1).2).1
  have r1 := aWe_r (t := t) (s := nx t s)
  have l1 : s + 3 ≤ nx t s := by
    obtain ⟨g, hg⟩ := zint (show 0 ≤ -20 - aWe t s by omega)
    have hk := zSL_k g (by omega)
    have := aWe_len (g := g) w ht.1 (by omega) (by rw [hk.2]; omega)
    omega
  have mh : ∀ m S σ, mOk t s m 0 S σ → S 1 = n → ∃ τ, zFr Wmp σ τ ∧ mOk t (nx t s) m 0 S τ ∧ zev (K + 21) 247 [.inr (.inr (0, 60))] σ = if aWe t (nx t s) = -15 then ((zev (K + 20) 236 [.inr (.inr (0, 60)), .inl 1] τ).bind fun x2 => (zev (K + 20) 246 [.inr (.inr (0, 60))] x2.2.2).bind fun x3 => r49 K (iI (-20 - aWe t s)) x3.2.2) else r49 K (iI (-20 - aWe t s)) τ := fun m S σ h hS => by
    obtain ⟨τ, f1, f2, f3, f4⟩ := zm236t (d := K + 15) w h.1 (aTf_l ht.1).2 h.2.1
    have ok : mOk t (nx t s) m 0 S τ := ⟨f3, f4, mMm_f h.2.2 f2⟩
    have k9 : (lg_cmp (aHs t (nx t s)) 294 = 0) = (aWe t (nx t s) = -15) := aWe_k (g := 9) w t1.1 (by decide)
    refine ⟨τ, zFr_i f2 fun _ _ _ q => by omega, ok, ?_⟩
    rw [m0 m S σ h hS, if_pos qk, r26_e, f1]
    simp only [zbs, zm237 (d := K + 16) w ok.1 t1.1 ok.2.1, cond_false, k9]
  have ch : ∀ c0 b σ, b ≤ s → cAt t 0 n c0 0 [] [] σ → ∃ τ, cLp d (iI (b : Nat)) (iI (s : Nat)) σ = cLp d (iI (aTf t s : Nat)) (iI (nx t s : Nat)) τ ∧ zFr (Wrr n c0) σ τ ∧ cAt t 1 n c0 0 [] [] τ ∧ τ.1 4 8 n = iI (-20 - aWe t s) := fun c0 b σ hb h => by
    obtain ⟨τ, e1, e2, e3, e4⟩ := t0k (d := d) h ⟨qk.1, qk.2.1⟩ hn
    refine ⟨τ, ?_, zFr_i e2 fun _ _ _ q => by omega, e3, e4⟩
    rw [aWe_d hs] at e1
    rw [cLp_t h.1 w hs (ht.2 hs) hb h.2.2.1 hn e1 (zFr_i e2 fun _ _ _ q => by omega), ← aTf_e hs]
    rfl
  by_cases q15 : aWe t (nx t s) = -15
  case neg =>
    refine rule_d (s3 := nx t s) (u := 1) (B := []) (A := []) (kd := -20 - aWe t s) w hn t1 (by omega) (by omega) eqC_0 (by rw [List.length_nil]; omega) (by rw [List.length_nil]; omega) (Or.inl ⟨rfl, q15⟩) (fun m S σ h hS hm1 => ?_) (fun c0 b σ hb h hc0 => ?_)
    · obtain ⟨τ, f1, f2, f3⟩ := mh m S σ h hS
      rw [if_neg q15] at f3
      exact ⟨τ, f3, f1, f2, by show m + 0 ≤ _; omega⟩
    · obtain ⟨τ, e1, e2, e3, e4⟩ := ch c0 b σ hb h
      exact ⟨_, τ, [], [], b1, e1, e2, e3, rfl, rfl, fun u hu => absurd hu (List.not_mem_nil), by show c0 + 0 + 0 ≤ _; omega, e4⟩
  case pos =>
  have hs1 : nx t s < t.1 := aWe_s (by omega)
  have t2 := tS_nx t1.1
  have n2 := nx_l t1.1
  have b2 : aTf t (nx t s) ≤ nx t (nx t s) := (aTs_l (aTf_l t1.1).2).1
  have l2 : nx t s + 2 ≤ nx t (nx t s) := by
    have := aWe_len (g := 9) w t1.1 (by decide) q15
    rw [zSL_if] at this
    exact this
  have mi : ∀ m S σ, mOk t s m 0 S σ → S 1 = n → ∃ τ, zFr Wmp σ τ ∧ mOk t (nx t (nx t s)) m 0 S τ ∧ zev (K + 21) 247 [.inr (.inr (0, 60))] σ = (zev (K + 20) 246 [.inr (.inr (0, 60))] τ).bind fun x3 => r49 K (iI (-20 - aWe t s)) x3.2.2 := fun m S σ h hS => by
    obtain ⟨τ, f1, f2, f3⟩ := mh m S σ h hS
    obtain ⟨υ, y1, y2, y3, y4⟩ := zm236t (d := K + 15) w f2.1 (aTf_l t1.1).2 f2.2.1
    refine ⟨υ, zFr_tt f1 (zFr_i y2 fun _ _ _ q => by omega), ⟨y3, y4, mMm_f f2.2.2 y2⟩, ?_⟩
    rw [f3, if_pos q15, y1]
    rfl
  have ci : ∀ c0 b σ, b ≤ s → cAt t 0 n c0 0 [] [] σ → ∃ τ, cLp d (iI (b : Nat)) (iI (s : Nat)) σ = cLp d (iI (aTf t (nx t s) : Nat)) (iI (nx t (nx t s) : Nat)) τ ∧ zFr (Wrr n c0) σ τ ∧ cAt t 4 n c0 0 [] [] τ ∧ τ.1 4 8 n = iI (-20 - aWe t s) := fun c0 b σ hb h => by
    obtain ⟨τ, e1, e2, e3, e4⟩ := ch c0 b σ hb h
    have tk := t1i (t := t) (d := d) (n := n) (c0 := c0) (o := 0) (L := []) (R := [])
    rw [← q15] at tk
    obtain ⟨υ, y1, y2, y3⟩ := cGo w t1 hs1 b1 hn e3 tk
    exact ⟨υ, e1.trans y1, zFr_tt e2 (zFr_i y2 fun _ _ _ q => by omega), y3, (y2.1 _ _ _ (by omega)).trans e4⟩
  rcases zOu_c (d := d) (n := n) (K := K) w hn 3 0 rfl (nx t (nx t s)) t2 with ⟨s3, B, A, o1, o2, o3, o8, o4, o7, o5, o6⟩ | ⟨s3, o1, o5, o6⟩
  · refine rule_d (s3 := s3) (u := 7) (B := B) (A := A) (kd := -20 - aWe t s) w hn o2 (by omega) (by omega) (eqC_v o4 (by decide)) (by omega) (by omega) (Or.inr ⟨rfl, o7⟩) (fun m S σ h hS hm1 => ?_) (fun c0 b σ hb h hc0 => ?_)
    · obtain ⟨τ, f1, f2, f3⟩ := mi m S σ h hS
      obtain ⟨υ, y1, y2, y3⟩ := o5 m S τ f2 (by omega)
      have y1 : zev (K + 20) 246 [.inr (.inr (0, 60))] τ = some (0, 0, υ) := y1
      rw [y1] at f3
      exact ⟨υ, f3, zFr_tt f1 y2, y3, by omega⟩
    · obtain ⟨τ, e1, e2, e3, e4⟩ := ci c0 b σ hb h
      obtain ⟨b3, υ, L2, R2, y1, y2, y3, y4, y5, y6, y7, y8⟩ := o6 c0 [] [] _ τ b2 e3 trivial (fun u hu => absurd hu (List.not_mem_nil)) (by show c0 + 0 + 0 + 4 ≤ _; omega)
      exact ⟨b3, υ, L2, R2, y1, e1.trans y2, zFr_tt e2 (zFr_i y3 fun _ _ _ q => by omega), y4, y5, y6, y7, by omega, (y3.1 _ _ _ (by omega)).trans e4⟩
  · refine Or.inr ⟨s3, o1, fun m S σ h hS hm1 => ?_, fun c0 b σ hb h hc0 => ?_⟩
    · obtain ⟨τ, f1, f2, f3⟩ := mi m S σ h hS
      obtain ⟨υ, y1, y2, y3⟩ := o5 m S τ f2 (by omega)
      have y1 : zev (K + 20) 246 [.inr (.inr (0, 60))] τ = some (0, 0, υ) := y1
      obtain ⟨φ, z1, z2, z3⟩ := r49x (K := K) (a := iI (-20 - aWe t s)) w o1 y3
      rw [y1] at f3
      exact ⟨φ, f3.trans z1, zFr_mr (zFr_tt (zFr_tt f1 y2) z2), z3⟩
    · obtain ⟨τ, e1, e2, e3, e4⟩ := ci c0 b σ hb h
      obtain ⟨υ, y1, y2⟩ := o6 c0 [] [] _ τ b2 e3 trivial (fun u hu => absurd hu (List.not_mem_nil)) (by show c0 + 0 + 0 + 4 ≤ _; omega)
      exact ⟨υ, e1.trans y1, zFr_tt (zFr_i e2 fun _ _ _ q => by omega) (zFr_i y2 fun _ _ _ q => by omega)⟩
theorem zmR_c {f c c2 : Nat → Int32} : ∀ (n k : Nat) (st : List Int32), (∀ i, k ≤ i → i < k + n → c i = c2 i) → zmR f c n k st = zmR f c2 n k st
  | 0, _, _, _ => rfl
  | n + 1, k, st, h => by
    show (zmS f (c k) st).bind (zmR f c n (k + 1)) = (zmS f (c2 k) st).bind (zmR f c2 n (k + 1))
    rw [h k (Nat.le_refl _) (by omega)]
    congr 1
    funext st2
    exact zmR_c n (k + 1) st2 (fun i hi hi2 => h i (by omega) (by omega))
theorem zmC_c {f c c2 : Nat → Int32} {k n : Nat} (h : ∀ i, k ≤ i → i < k + n → c i = c2 i) : zmC f c k n = zmC f c2 k n := by
  unfold zmC
  rw [zmR_c n k [] h]
theorem aEnd_m {S : zS} (u : wU S) : ∀ (j k : Nat), k + j ≤ (S 1).toNat → aEnd S k ≤ aEnd S (k + j)
  | 0, _, _ => Nat.le_refl _
  | j + 1, k, h => by
    have h1 := aEnd_m u j k (by omega)
    have h2 := (u.2.2 (k + j) (by omega)).2.2.2.2.2.2.1
    exact Nat.le_trans h1 h2
theorem cEn_m {g : Nat} {S : zS} {σ : zM} (h : cU g S σ) : ∀ (j k : Nat), k + j ≤ (S 1).toNat → cEn (σ.1 g 11) k ≤ cEn (σ.1 g 11) (k + j)
  | 0, _, _ => Nat.le_refl _
  | j + 1, k, hk => by
    have h1 := cEn_m h j k (by omega)
    have h2 := (h.2 (k + j) (by omega)).2.2.2.2.1
    exact Nat.le_trans h1 h2
theorem cEn_e {e e2 : Nat → Int32} {n : Nat} (h : ∀ i, i < n → e i = e2 i) : ∀ j, j ≤ n → cEn e j = cEn e2 j
  | 0, _ => rfl
  | j + 1, hj => by
    show (e j).toNatClampNeg = (e2 j).toNatClampNeg
    rw [h j (by omega)]
theorem aRu_n {S : zS} {n m i : Nat} {a dd am : Int} (h1 : i ≠ 1) (h2 : i < 88 + 4 * n ∨ 92 + 4 * n ≤ i) : aRu S n a dd am m i = S i := by
  unfold aRu
  rw [zup_n h1, zup_n (by omega), zup_n (by omega), zup_n (by omega), zup_n (by omega)]
theorem aRu_s {S : zS} {n m : Nat} {a dd am : Int} : aRu S n a dd am m 1 = ((n + 1 : Nat) : Int) ∧ aRu S n a dd am m (88 + 4 * n) = a ∧ aRu S n a dd am m (89 + 4 * n) = dd ∧ aRu S n a dd am m (90 + 4 * n) = am ∧ aRu S n a dd am m (91 + 4 * n) = m := by
  unfold aRu
  refine ⟨zup_s, ?_, ?_, ?_, ?_⟩
  · rw [zup_n (by omega), zup_n (by omega), zup_n (by omega), zup_n (by omega), zup_s]
  · rw [zup_n (by omega), zup_n (by omega), zup_n (by omega), zup_s]
  · rw [zup_n (by omega), zup_n (by omega), zup_s]
  · rw [zup_n (by omega), zup_s]
theorem ru_old {S : zS} {n m : Nat} {kd dd am : Int} {A : List Int} (u : wU S) (hS : S 1 = n) (hn : n < 8) (hm : aEnd S n = m) : (∀ i, i ≠ 1 → i < 88 + 4 * n → aRu (aPut S m A) n kd dd am (m + A.length) i = S i) ∧ (∀ k, k ≤ n → aEnd (aRu (aPut S m A) n kd dd am (m + A.length)) k = aEnd S k) ∧ (∀ f k, k < n → zmC f (aCod (aRu (aPut S m A) n kd dd am (m + A.length))) (aEnd S k) (aEnd S (k + 1) - aEnd S k) = zmC f (aCod S) (aEnd S k) (aEnd S (k + 1) - aEnd S k)) := by
  have h1 : ∀ i, i ≠ 1 → i < 88 + 4 * n → aRu (aPut S m A) n kd dd am (m + A.length) i = S i := fun i a b => by
    rw [aRu_n a (Or.inl b), aPut_n A S m i (by omega)]
  refine ⟨h1, fun k hk => ?_, fun f k hk => zmC_c fun i a b => ?_⟩
  · cases k with
    | zero => rfl
    | succ k =>
      show (aRu (aPut S m A) n kd dd am (m + A.length) (91 + 4 * k)).toNat = (S (91 + 4 * k)).toNat
      rw [h1 (91 + 4 * k) (by omega) (by omega)]
  · have e1 := aEnd_m u (n - (k + 1)) (k + 1) (by omega)
    rw [show k + 1 + (n - (k + 1)) = n by omega, hm] at e1
    have e2 := (u.2.2 k (by omega)).2.2.2.2.2.2.1
    show iI (aRu (aPut S m A) n kd dd am (m + A.length) (120 + i)) = iI (S (120 + i))
    rw [aRu_n (by omega) (Or.inr (by omega)), aPut_n A S m (120 + i) (by omega)]
theorem ru_new {S : zS} {n m : Nat} {kd dd am : Int} {A : List Int} (f : Nat → Int32) (hn : n < 8) : zmC f (aCod (aRu (aPut S m A) n kd dd am (m + A.length))) m A.length = (zmL f A []).map zmE := by
  unfold zmC
  rw [zmR_L A m [] fun i hi => ?_]
  show iI (aRu (aPut S m A) n kd dd am (m + A.length) (120 + (m + i))) = _
  rw [aRu_n (by omega) (Or.inr (by omega)), aPut_g A S m i hi]
theorem ru_w {S : zS} {n m : Nat} {kd dd am : Int} {B A : List Int} (u : wU S) (hS : S 1 = n) (hn : n < 8) (hm : aEnd S n = m) (hA : m + A.length ≤ 200) (hk : 0 ≤ kd ∧ kd ≤ 5) (hd : 0 ≤ dd ∧ dd ≤ 2) (ha : 0 ≤ am ∧ am ≤ 999) (hE : eqC B A) : wU (aRu (aPut S m A) n kd dd am (m + A.length)) := by
  obtain ⟨o1, o2, o3⟩ := ru_old (kd := kd) (dd := dd) (am := am) (A := A) u hS hn hm
  obtain ⟨s1, s2, s3, s4, s5⟩ := aRu_s (S := aPut S m A) (n := n) (m := m + A.length) (a := kd) (dd := dd) (am := am)
  refine ⟨by rw [s1]; omega, by rw [s1]; omega, fun k hk2 => ?_⟩
  rw [s1] at hk2
  by_cases q : k = n
  · subst q
    have e2 : aEnd (aRu (aPut S m A) k kd dd am (m + A.length)) (k + 1) = m + A.length := by
      show (aRu (aPut S m A) k kd dd am (m + A.length) (91 + 4 * k)).toNat = _
      rw [s5]; omega
    rw [s2, s3, s4, s5, o2 k (Nat.le_refl _), e2, hm]
    refine ⟨hk.1, hk.2, hd.1, hd.2, ha.1, ha.2, by omega, by omega, by omega, fun f => ?_⟩
    rw [show m + A.length - m = A.length by omega, ru_new f hn, hE f]
    exact fun z => by cases z
  · have uk := u.2.2 k (by omega)
    rw [o1 (88 + 4 * k) (by omega) (by omega), o1 (89 + 4 * k) (by omega) (by omega), o1 (90 + 4 * k) (by omega) (by omega), o1 (91 + 4 * k) (by omega) (by omega), o2 k (by omega), o2 (k + 1) (by omega)]
    refine ⟨uk.1, uk.2.1, uk.2.2.1, uk.2.2.2.1, uk.2.2.2.2.1, uk.2.2.2.2.2.1, uk.2.2.2.2.2.2.1, uk.2.2.2.2.2.2.2.1, uk.2.2.2.2.2.2.2.2.1, fun f => ?_⟩
    rw [o3 f k (by omega)]
    exact uk.2.2.2.2.2.2.2.2.2 f
theorem ru_c {t : zXt} {S : zS} {n m c0 : Nat} {kd dd am : Int} {B A : List Int} {σ τ : zM} (u : wU S) (hS : S 1 = n) (hn : n < 8) (hm : aEnd S n = m) (hB : c0 + B.length ≤ 200) (hE : eqC B A) (h : cU 4 S σ) (hc : cEn (σ.1 4 11) n = c0) (f : zFr (Wrr n c0) σ τ) (h7 : cAt t 0 (n + 1) (c0 + B.length) 0 [] [] τ) (h8 : τ.1 4 8 n = iI kd) (h9 : τ.1 4 9 n = iI (cD dd)) (h10 : dd < 2 → τ.1 4 10 n = iI am) (h11 : τ.1 4 11 n = iI (c0 + B.length : Nat)) (h12 : ∀ i, i < B.length → τ.1 4 12 (c0 + i) = iI (B.getD i 0)) : cU 4 (aRu (aPut S m A) n kd dd am (m + A.length)) τ ∧ cEn (τ.1 4 11) (n + 1) = c0 + B.length := by
  obtain ⟨o1, o2, o3⟩ := ru_old (kd := kd) (dd := dd) (am := am) (A := A) u hS hn hm
  obtain ⟨s1, s2, s3, s4, s5⟩ := aRu_s (S := aPut S m A) (n := n) (m := m + A.length) (a := kd) (dd := dd) (am := am)
  have en := cEn_e (e := τ.1 4 11) (e2 := σ.1 4 11) (n := n) (fun i hi => f.1 _ _ _ (by omega))
  have ee : cEn (τ.1 4 11) (n + 1) = c0 + B.length := by
    show (τ.1 4 11 n).toNatClampNeg = _
    rw [h11, iI_Nn (show c0 + B.length ≤ 2147483647 by omega)]
  refine ⟨⟨by rw [s1]; exact h7.2.2.1, fun k hk2 => ?_⟩, ee⟩
  rw [s1] at hk2
  by_cases q : k = n
  · subst q
    have e2 : aEnd (aRu (aPut S m A) k kd dd am (m + A.length)) (k + 1) = m + A.length := by
      show (aRu (aPut S m A) k kd dd am (m + A.length) (91 + 4 * k)).toNat = _
      rw [s5]; omega
    rw [s2, s3, s4, o2 k (Nat.le_refl _), e2, hm, ee, en k (Nat.le_refl _), hc]
    refine ⟨h8, h9, h10, h11, by omega, hB, fun g => ?_⟩
    rw [show m + A.length - m = A.length by omega, ru_new g hn, hE g, show c0 + B.length - c0 = B.length by omega]
    unfold zcC
    rw [zcR_L B c0 [] h12]
  · have hk := h.2 k (by omega)
    have em := cEn_m h (n - (k + 1)) (k + 1) (by omega)
    rw [show k + 1 + (n - (k + 1)) = n by omega, hc] at em
    rw [o1 (88 + 4 * k) (by omega) (by omega), o1 (89 + 4 * k) (by omega) (by omega), o1 (90 + 4 * k) (by omega) (by omega), o2 k (by omega), o2 (k + 1) (by omega), en k (by omega), en (k + 1) (by omega), f.1 4 8 k (by omega), f.1 4 9 k (by omega), f.1 4 10 k (by omega), f.1 4 11 k (by omega)]
    refine ⟨hk.1, hk.2.1, hk.2.2.1, hk.2.2.2.1, hk.2.2.2.2.1, hk.2.2.2.2.2.1, fun g => ?_⟩
    have h5 := hk.2.2.2.2.1
    rw [o3 g k (by omega), hk.2.2.2.2.2.2 g]
    unfold zcC
    rw [zcC_c (c := τ.1 4 12) (c' := σ.1 4 12) (fun i hi hi2 => f.1 _ _ _ (by omega))]
abbrev Wmt : Nat → Nat → Nat → Prop := fun g k i => g = 0 ∧ ((k = 60 ∧ 18 ≤ i ∧ i ≤ 24) ∨ k = 61)
noncomputable def mLp (K : Nat) (σ : zM) : zR := zrun (zev (K + 21)) zT_248 35 [some (.inr (.inr (0, 60)))] [] σ
def lOu (t : zXt) (d n K s m c0 : Nat) (S : zS) : Prop := (∃ S', wU S' ∧ (∀ i, i ≠ 1 → i < 88 → S' i = S i) ∧ (∀ σ, mOk t s m 0 S σ → ∃ τ, mLp K σ = some (iI (S' 1), 0, τ) ∧ zFr Wmt σ τ ∧ mS 61 S' τ ∧ τ.1 0 60 18 = 0) ∧ (∀ b σ, b ≤ s → cAt t 0 n c0 0 [] [] σ → cU 4 S σ → cEn (σ.1 4 11) n = c0 → ∃ τ, cLp d (iI (b : Nat)) (iI (s : Nat)) σ = some (-9, 0, τ) ∧ zFr Wrd σ τ ∧ cU 4 S' τ))
  ∨ (∃ s2, s2 ≤ t.1 ∧ (∀ S0 σ, mOk t s m 0 S σ → mS 63 S0 σ → ∃ τ, mLp K σ = some (iI (-100 - (s2 : Nat)), 0, τ) ∧ zFr Wmt σ τ ∧ mS 61 S0 τ ∧ τ.1 0 60 18 = 0) ∧ (∀ b σ, b ≤ s → cAt t 0 n c0 0 [] [] σ → ∃ τ, cLp d (iI (b : Nat)) (iI (s : Nat)) σ = some (iI (s2 : Nat), 0, τ) ∧ zFr Wrd σ τ))
theorem mLp_60x {t : zXt} {K s : Nat} {S0 : zS} {σ : zM} (h : mBd t s 0 σ) (h63 : mS 63 S0 σ) (hs : s ≤ 200) : ∃ τ, mLp K σ = some (iI (-100 - (s : Nat)), 0, τ) ∧ zFr Wmt σ τ ∧ mS 61 S0 τ ∧ τ.1 0 60 18 = 0 := by
  obtain ⟨τ, e1, e2, e3⟩ := zm154 (d := K + 20) (S := S0) (σ := zwI σ 0 60 18 0) (mS_f h63 (zfn (by omega)))
  have h19 : τ.1 0 60 19 = iI s := (e2.1 _ _ _ (by omega)).trans ((zfe (by omega)).trans h.1.2.1)
  refine ⟨τ, ?_, zFr_tt (zFr_w (by omega)) (zFr_i e2 fun _ _ _ q => by omega), e3, (e2.1 _ _ _ (by omega)).trans zfs⟩
  unfold mLp
  rw [ez_248_35, h.2.1, if_neg (by decide), ez_248_60, zfe (by omega), h.2.1, if_neg (by decide), e1]
  simp only [zbs, h19]
  rw [show (-100 : Int32) = iI (-100) by decide, iI_sub]
theorem lOu_i {t : zXt} {d K : Nat} (w : wT t) : ∀ (N n s m c0 : Nat) (S : zS), t.1 ≤ s + N → tS t s → wU S → S 1 = n → aEnd S n = m → m ≤ s → c0 ≤ s → lOu t d n K s m c0 S := by
  have hl := w.1
  have stop : ∀ (n s m c0 : Nat) (S : zS), ¬ s < t.1 → tS t s → wU S → S 1 = n → lOu t d n K s m c0 S := fun n s m c0 S q ht u hS => by
    have es : s = t.1 := by have := ht.1; omega
    refine Or.inl ⟨S, u, fun _ _ _ => rfl, fun σ h => ?_, fun b σ hb h hU hc => ⟨σ, ?_, zFr_r σ, hU⟩⟩
    · refine ⟨zwI σ 0 60 18 0, ?_, zFr_w (by omega), mS_f h.2.2.2.2 (zfn (by omega)), zfs⟩
      unfold mLp
      rw [ez_248_35, h.2.1, if_pos (by decide), h.1.2.1, h.1.1.1, if_neg (by rw [iI_lt (by omega) (by omega)]; omega), ez_248_60, zfe (by omega), zfe (by omega), h.2.1, if_pos (by decide), h.2.2.2.2 1 (by decide)]
    · have c := cLp_e (d := d) (b := b) h.1 w h.2.1 (by decide)
      rw [if_pos rfl, ← es] at c
      exact c
  intro N
  induction N with
  | zero =>
    intro n s m c0 S hN ht u hS hm hm1 hc0
    exact stop n s m c0 S (by omega) ht u hS
  | succ N ih =>
    intro n s m c0 S hN ht u hS hm hm1 hc0
    by_cases q : s < t.1
    case neg => exact stop n s m c0 S q ht u hS
    have u1 := u.2.1
    have mh : ∀ σ, mOk t s m 0 S σ → mLp K σ = (zev (K + 21) 247 [.inr (.inr (0, 60))] σ).bind fun x0 => mLp K x0.2.2 := fun σ h => by
      unfold mLp
      rw [ez_248_35, h.2.1, if_pos (by decide), h.1.2.1, h.1.1.1, if_pos (by rw [iI_lt (by omega) (by omega)]; omega)]
    rcases rOu_i (d := d) (n := n) (K := K) w (by omega) ht q with ⟨s2, kd, dd, am, B, A, hn, o1, o2, o3, k0, k5, d0, d2, a0, a9, hE, hA, hB, o5, o6⟩ | ⟨s2, o1, o5, o6⟩
    case inr =>
      refine Or.inr ⟨s2, o1, fun S0 σ h h63 => ?_, fun b σ hb h => o6 c0 b σ hb h hc0⟩
      obtain ⟨τ, e1, e2, e3⟩ := o5 m S σ h hS hm1
      obtain ⟨υ, y1, y2, y3⟩ := mLp_60x (K := K) e3 (mS_f h63 (zFr_f e2 (fun i => by omega))) (by omega)
      refine ⟨υ, ?_, zFr_tt (zFr_i e2 fun _ _ _ q => by omega) y2, y3⟩
      rw [mh σ h, e1]
      exact y1
    case inl =>
    have hne : m + A.length ≤ s2 ∧ c0 + B.length ≤ s2 := by omega
    have wn := ru_w (B := B) u hS hn hm (by omega) ⟨k0, k5⟩ ⟨d0, d2⟩ ⟨a0, a9⟩ hE
    have en : aEnd (aRu (aPut S m A) n kd dd am (m + A.length)) (n + 1) = m + A.length := by
      show (aRu (aPut S m A) n kd dd am (m + A.length) (91 + 4 * n)).toNat = _
      rw [aRu_s.2.2.2.2]; omega
    have ol := (ru_old (kd := kd) (dd := dd) (am := am) (A := A) u hS hn hm).1
    have cn : ∀ b σ, b ≤ s → cAt t 0 n c0 0 [] [] σ → cU 4 S σ → cEn (σ.1 4 11) n = c0 → ∃ b2 τ, b2 ≤ s2 ∧ cLp d (iI (b : Nat)) (iI (s : Nat)) σ = cLp d (iI (b2 : Nat)) (iI (s2 : Nat)) τ ∧ zFr Wrd σ τ ∧ cAt t 0 (n + 1) (c0 + B.length) 0 [] [] τ ∧ cU 4 (aRu (aPut S m A) n kd dd am (m + A.length)) τ ∧ cEn (τ.1 4 11) (n + 1) = c0 + B.length := fun b σ hb h hU hc => by
      obtain ⟨b2, τ, e1, e2, e3, e4, e5, e6, e7, e8, e9, e10⟩ := o6 c0 b σ hb h hc0
      obtain ⟨x1, x2⟩ := ru_c (A := A) (kd := kd) (am := am) u hS hn hm (by omega) hE hU hc e3 e4 e5 e6 e7 e8 e9
      exact ⟨b2, τ, e1, e2, zFr_i e3 fun _ _ _ q => by omega, e4, x1, x2⟩
    rcases ih (n + 1) s2 (m + A.length) (c0 + B.length) _ (by omega) o2 wn aRu_s.1 en hne.1 hne.2 with ⟨S', r1, r2, r3, r4⟩ | ⟨s3, r1, r3, r4⟩
    · refine Or.inl ⟨S', r1, fun i a b => (r2 i a b).trans (ol i a (by omega)), fun σ h => ?_, fun b σ hb h hU hc => ?_⟩
      · obtain ⟨τ, e1, e2, e3, e4⟩ := o5 m S σ h hS hm1
        obtain ⟨υ, y1, y2, y3⟩ := r3 τ e3
        refine ⟨υ, ?_, zFr_tt (zFr_i e2 fun _ _ _ q => by omega) y2, y3⟩
        rw [mh σ h, e1]
        exact y1
      · obtain ⟨b2, τ, e1, e2, e3, e4, e5, e6⟩ := cn b σ hb h hU hc
        obtain ⟨υ, y1, y2, y3⟩ := r4 b2 τ e1 e4 e5 e6
        exact ⟨υ, e2.trans y1, zFr_tt e3 y2, y3⟩
    · refine Or.inr ⟨s3, r1, fun S0 σ h h63 => ?_, fun b σ hb h => ?_⟩
      · obtain ⟨τ, e1, e2, e3, e4⟩ := o5 m S σ h hS hm1
        obtain ⟨υ, y1, y2, y3⟩ := r3 S0 τ e3 (mS_f h63 (zFr_f e2 (fun i => by omega)))
        refine ⟨υ, ?_, zFr_tt (zFr_i e2 fun _ _ _ q => by omega) y2, y3⟩
        rw [mh σ h, e1]
        exact y1
      · obtain ⟨b2, τ, e1, e2, e3, e4, e5, e6, e7, e8, e9, e10⟩ := o6 c0 b σ hb h hc0
        obtain ⟨υ, y1, y2⟩ := r4 b2 τ e1 e4
        exact ⟨υ, e2.trans y1, zFr_tt (zFr_i e3 fun _ _ _ q => by omega) y2⟩
theorem wA_ru {S T : zS} (w : wA S) (u : wU T) (e : ∀ i, i ≠ 1 → i < 88 → T i = S i) : wA T := by
  obtain ⟨wb, ww, wp, wr, wu, wz⟩ := w
  have b1 := wb.2.1
  have p1 := wp.2.1
  refine ⟨wB_c wb (e 0 (by decide) (by decide)) (fun i a b _ => e i (by omega) (by omega)) (fun b hb => ?_), wW_c ww (e 4 (by decide) (by decide)) (e 5 (by decide) (by decide)), wP_c wp (e 2 (by decide) (by decide)) (e 0 (by decide) (by decide)) (fun i a b _ => e i (by omega) (by omega)) (fun p hp => ?_), wR_c wr (e 3 (by decide) (by decide)) (by rw [e 0 (by decide) (by decide)]; exact Int.le_refl _) (fun i a b => e i (by omega) (by omega)), u, by rw [e 6 (by decide) (by decide)]; exact wz⟩
  · have h := wb.2.2 b hb
    rw [e (11 + 5 * b) (by omega) (by omega)]
    omega
  · have h := wp.2.2 p hp
    rw [e (54 + 3 * p) (by omega) (by omega)]
    omega
theorem cA_ru {S T : zS} {σ τ : zM} (h : cA 0 S σ) (w : wA S) (u : cU 0 T τ) (e : ∀ i, i ≠ 1 → i < 88 → T i = S i) (f : zFr (fun g k _ => g = 0 ∧ 7 ≤ k ∧ k ≤ 12) σ τ) : cA 0 T τ := by
  obtain ⟨wb, ww, wp, wr, wu, wz⟩ := w
  obtain ⟨h1, h2, h3, h4, h5, h6, h7⟩ := h
  have q : ∀ k, k < 7 ∨ 12 < k → τ.1 0 k = σ.1 0 k := fun k hk => zFr_f f (fun i => by omega)
  refine ⟨cB_c (cB_f h1 fun k a b => q k (by omega)) wb (e 0 (by decide) (by decide)) (fun i a b _ => e i (by omega) (by omega)), cK_c (cK_f h2 (q 1 (by decide))) wb (e 0 (by decide) (by decide)) (fun b hb => e _ (by omega) (by omega)), cW_c (cW_f h3 (q 1 (by decide))) (e 4 (by decide) (by decide)) (e 5 (by decide) (by decide)), cP_c (cP_f h4 fun k a b => q k (by omega)) (e 2 (by decide) (by decide)) (fun i a b => e i (by omega) (by omega)) wp, cR_c (cR_f h5 (by rw [q 19 (by decide)]) fun k a b => q k (by omega)) (e 3 (by decide) (by decide)) (fun i a b => e i (by omega) (by omega)) wr, u, ?_⟩
  unfold cZ at h7 ⊢
  rw [q 0 (by decide), e 6 (by decide) (by decide)]
  exact h7
theorem RM_y {x : zXx} {S : zS} {σ τ : zM} (h : RM x σ) (f : zFr (fun g k i => g = 0 ∧ ((k = 60 ∧ 18 ≤ i ∧ i ≤ 24) ∨ k = 61 ∨ k = 63)) σ τ) (hS : mS 61 S τ) (h18 : τ.1 0 60 18 = 0) : RM (S, (xst x (0, (xt x).2)).2) τ := by
  have hT : σ.1 0 60 18 = iI (xt x).1 := h.2.2.1.1
  have fu : zFr WM σ (zwI τ 0 60 18 (iI (xt x).1)) := ⟨fun g k i q => by
    by_cases z : g = 0 ∧ k = 60 ∧ i = 18
    · obtain ⟨rfl, rfl, rfl⟩ := z
      rw [zfs, hT]
    · rw [zfe z]
      exact f.1 g k i (by omega), f.2⟩
  have hu := RM_o (S := S) h fu (mS_f hS (zfn (by omega)))
  refine RM_t (x := (S, x.2)) (t := (0, (xt x).2)) hu ⟨fun g k i q => ?_, rfl⟩ ⟨h18, fun i hi => absurd hi (Nat.not_lt_zero i)⟩
  rw [zfe (by omega)]
theorem zx_90 {x : zXx} (w : WX x) : zCall 90 248 [] x := by
  have wt := w.2.2.1
  have wa := w.1
  have hl := wt.1
  have ts : tS (xt x) (aTs (xt x) 0) := ⟨(aTs_l (Nat.zero_le _)).2, fun q => aTs_n (Nat.zero_le _) q⟩
  have u0 : wU (zup x.1 1 0) := ⟨by rw [zup_s]; decide, by rw [zup_s]; decide, fun k hk => by rw [zup_s] at hk; exact absurd hk (Nat.not_lt_zero k)⟩
  have mb : ∀ σ, RM x σ → ∃ τ, zev 64 248 [.inr (.inr (0, 60))] σ = mLp 42 τ ∧ zFr (fun g k i => g = 0 ∧ ((k = 60 ∧ 18 ≤ i ∧ i ≤ 24) ∨ k = 61 ∨ k = 63)) σ τ ∧ mOk (xt x) (aTs (xt x) 0) 0 0 (zup x.1 1 0) τ ∧ mS 63 x.1 τ := fun σ h => by
    obtain ⟨τ1, a1, a2, a3⟩ := zm153 (d := 62) h.1
    have f2 : zFr (fun g k i => g = 0 ∧ ((k = 60 ∧ 18 ≤ i ∧ i ≤ 24) ∨ k = 61 ∨ k = 63)) σ (zwI (zwI (zwI (zwI (zwI τ1 0 61 1 0) 0 60 23 0) 0 60 22 0) 0 60 20 0) 0 60 24 0) := zFr_tt (zFr_tt (zFr_tt (zFr_tt (zFr_tt (zFr_i a2 fun _ _ _ q => by omega) (zFr_w (by omega))) (zFr_w (by omega))) (zFr_w (by omega))) (zFr_w (by omega))) (zFr_w (by omega))
    have T2 : mTp (xt x) (zwI (zwI (zwI (zwI (zwI τ1 0 61 1 0) 0 60 23 0) 0 60 22 0) 0 60 20 0) 0 60 24 0) := by
      have h18 : τ1.1 0 60 18 = σ.1 0 60 18 := a2.1 _ _ _ (by omega)
      refine ⟨?_, fun i hi => ?_⟩
      · rw [zfe (by omega), zfe (by omega), zfe (by omega), zfe (by omega), zfe (by omega), h18]; exact h.2.2.1.1
      · rw [zfe (by omega), zfe (by omega), zfe (by omega), zfe (by omega), zfe (by omega), a2.1 _ _ _ (by omega)]; exact h.2.2.1.2 i hi
    obtain ⟨τ3, b1, b2, b3⟩ := zm235 (d := 59) (p := 0) wt T2 (Nat.zero_le _) (by rw [zfe (by omega), zfs]; rfl)
    have s61 : mS 61 x.1 τ1 := mS_f h.1 (zFr_f a2 (fun i => by omega))
    have s2 : mS 61 (zup x.1 1 0) (zwI τ1 0 61 1 0) := mS_w (v := 0) s61
    have r : ∀ i, ¬ (i = 19 ∨ i = 20) → τ3.1 0 60 i = (zwI (zwI (zwI (zwI (zwI τ1 0 61 1 0) 0 60 23 0) 0 60 22 0) 0 60 20 0) 0 60 24 0).1 0 60 i := fun i hi => b2.1 _ _ _ (by omega)
    refine ⟨τ3, ?_, zFr_tt f2 (zFr_i b2 fun _ _ _ q => by omega), ⟨b3, by rw [r 24 (by decide), zfs]; rfl, by rw [r 22 (by decide), zfe (by omega), zfe (by omega), zfs]; rfl, by rw [r 23 (by decide), zfe (by omega), zfe (by omega), zfe (by omega), zfs]; rfl, ?_⟩, mS_f a3 ?_⟩
    · unfold mLp
      have a1 : zev 63 153 [.inr (.inr (0, 60))] σ = some (0, 0, τ1) := a1
      have b1 : zev 63 235 [.inr (.inr (0, 60))] (zwI (zwI (zwI (zwI (zwI τ1 0 61 1 0) 0 60 23 0) 0 60 22 0) 0 60 20 0) 0 60 24 0) = some (0, 0, τ3) := b1
      rw [ez_248]
      simp only [a1, zbs]
      rw [zgd_t (by decide), b1]
      rfl
    · refine mS_f s2 ?_
      rw [zFr_f b2 (fun i => by omega), zfn (by omega), zfn (by omega), zfn (by omega), zfn (by omega)]
    · rw [zFr_f b2 (fun i => by omega), zfn (by omega), zfn (by omega), zfn (by omega), zfn (by omega), zfn (by omega)]
  have cb : ∀ σ, RC x σ → ∃ τ, zev 63 48 [.inr (.inr (0, 33)), .inr (.inr (0, 31))] σ = cLp 54 (iI (0 : Nat)) (iI (aTs (xt x) 0 : Nat)) τ ∧ zFr Wrd σ τ ∧ cAt (xt x) 0 0 0 0 [] [] τ := fun σ h => by
    have f2 : zFr Wrd σ (zwI (zwI (zwI (zwI (zwI σ 4 7 0 0) 0 33 1 0) 0 33 3 0) 0 33 4 0) 0 33 6 0) := zFr_tt (zFr_tt (zFr_tt (zFr_tt (zFr_w (by omega)) (zFr_w (by omega))) (zFr_w (by omega))) (zFr_w (by omega))) (zFr_w (by omega))
    have T := cTp_r h.2.2.1 f2
    refine ⟨_, ?_, f2, T, by rw [zfe (by omega), zfe (by omega), zfe (by omega), zfs]; rfl, by rw [zfe (by omega), zfe (by omega), zfe (by omega), zfe (by omega), zfs]; rfl, by rw [zfe (by omega), zfe (by omega), zfs]; rfl, by rw [zfe (by omega), zfs]; rfl, fun i hi => absurd hi (Nat.not_lt_zero i), by rw [zfs]; rfl, trivial⟩
    have e := cLp_b (d := 54) (b := 0) T wt (xt x).1 0 (by omega) (Nat.le_refl _)
    rw [ez_48]
    exact e
  have fin : ∀ (S' : zS) (v : Int32), wU S' → (∀ i, i ≠ 1 → i < 88 → S' i = x.1 i) → WX (S', (xst x (0, (xt x).2)).2) := fun S' v u e => ⟨wA_ru wa u e, w.2.1, ⟨Nat.zero_le _, fun i hi => absurd hi (Nat.not_lt_zero i)⟩, w.2.2.2.1, w.2.2.2.2.1, w.2.2.2.2.2.1, wK_c w.2.2.2.2.2.2.1 wa.1 (e 0 (by decide) (by decide)) (fun i a b _ => e i (by omega) (by omega)), w.2.2.2.2.2.2.2⟩
  have ct : ∀ σ τ, RC x σ → zFr Wrd σ τ → RC (xst x (0, (xt x).2)) (zwI τ 0 31 0 0) := fun σ τ h f => RC_t (RC_s h (zFr_i f fun _ _ _ q => by omega)) (zFr_w (by omega)) ⟨zfs, fun i hi => absurd hi (Nat.not_lt_zero i)⟩
  rcases lOu_i (d := 54) (K := 42) wt (xt x).1 0 (aTs (xt x) 0) 0 0 (zup x.1 1 0) (by omega) ts u0 zup_s rfl (Nat.zero_le _) (Nat.zero_le _) with ⟨S', r1, r2, r3, r4⟩ | ⟨s2, r1, r3, r4⟩
  · have e : ∀ i, i ≠ 1 → i < 88 → S' i = x.1 i := fun i a b => (r2 i a b).trans (zup_n a)
    refine ⟨(S', (xst x (0, (xt x).2)).2), iI (S' 1), fin S' 0 r1 e, fun σ h => ?_, fun σ h => ?_⟩
    · obtain ⟨τ, e1, e2, e3⟩ := cb σ h
      obtain ⟨υ, y1, y2, y3⟩ := r4 0 τ (Nat.zero_le _) e3 ⟨by rw [e3.2.2.1, zup_s]; rfl, fun k hk => by rw [zup_s] at hk; exact absurd hk (Nat.not_lt_zero k)⟩ rfl
      have hC := ct σ υ h (zFr_tt e2 y2)
      obtain ⟨φ, z1, z2, z3⟩ := zc63 (d := 60) (g := 0) (h := 4) (S := S') (σ := zwI υ 0 31 0 0) (by decide) (cU_f y3 fun k a b => zfn (by omega)) r1
      refine ⟨0, φ, ?_, RC_o (S := S') hC (zFr_i z2 fun _ _ _ q => by omega) (cA_ru hC.1 wa z3 e z2)⟩
      rw [ez_90]
      simp only [e1, y1, zbs]
      rw [if_pos (by decide), z1]
      simp only [zbs]
      rw [z3.1]
    · obtain ⟨τ, e1, e2, e3, e4⟩ := mb σ h
      obtain ⟨υ, y1, y2, y3, y4⟩ := r3 τ e3
      exact ⟨0, υ, e1.trans y1, RM_y h (zFr_tt e2 (zFr_i y2 fun _ _ _ q => by omega)) y3 y4⟩
  · refine ⟨(x.1, (xst x (0, (xt x).2)).2), iI (-100 - (s2 : Nat)), fin x.1 0 wa.2.2.2.2.1 (fun _ _ _ => rfl), fun σ h => ?_, fun σ h => ?_⟩
    · obtain ⟨τ, e1, e2, e3⟩ := cb σ h
      obtain ⟨υ, y1, y2⟩ := r4 0 τ (Nat.zero_le _) e3
      refine ⟨0, zwI υ 0 31 0 0, ?_, ct σ υ h (zFr_tt e2 y2)⟩
      rw [ez_90]
      simp only [e1, y1, zbs]
      rw [if_neg (by rw [iI_lt0 (by omega)]; omega), show (-100 : Int32) = iI (-100) by decide, iI_sub]
    · obtain ⟨τ, e1, e2, e3, e4⟩ := mb σ h
      obtain ⟨υ, y1, y2, y3, y4⟩ := r3 x.1 τ e3 e4
      exact ⟨0, υ, e1.trans y1, RM_y h (zFr_tt e2 (zFr_i y2 fun _ _ _ q => by omega)) y3 y4⟩
theorem yA0 {B : Nat → Bool} : zAl B [] := fun _ h => by cases h
theorem yAi {B : Nat → Bool} {x : Int32} {r : List zV} (h : zAl B r) : zAl B (.inl x :: r) := zAc trivial h
theorem yAj {B : Nat → Bool} {x : Int64} {r : List zV} (h : zAl B r) : zAl B (.inr (.inl x) :: r) := zAc trivial h
theorem yAr {B : Nat → Bool} {g k : Nat} {r : List zV} (hk : B k = true) (h : zAl B r) : zAl B (.inr (.inr (g, k)) :: r) := zAc hk h
theorem zBc_n {k : Nat} (h : 60 ≤ k) (h2 : k < 95) : zBc k = false := by
  unfold zBc
  have a : Nat.blt k 60 = false := by cases q : Nat.blt k 60 with | false => rfl | true => have := Nat.blt_eq.mp q; omega
  have b : Nat.ble 95 k = false := by cases q : Nat.ble 95 k with | false => rfl | true => have := Nat.ble_eq.mp q; omega
  rw [a, b]; rfl
theorem zBm_n {k : Nat} (h : k < 60) : zBm k = false := by
  unfold zBm
  have a : Nat.ble 60 k = false := by cases q : Nat.ble 60 k with | false => rfl | true => have := Nat.ble_eq.mp q; omega
  have b : Nat.ble 95 k = false := by cases q : Nat.ble 95 k with | false => rfl | true => have := Nat.ble_eq.mp q; omega
  rw [a, b]; rfl
theorem RM_kk {x : zXx} {σ τ : zM} (h : RM x σ) (s : zsm zBc σ τ) : RM x τ := by
  obtain ⟨h1, h2, h3, h4, h5, h6⟩ := h
  have e : ∀ k, 60 ≤ k → k < 95 → τ.1 0 k = σ.1 0 k := fun k a b => funext fun i => (s 0 k i (zBc_n a b)).1
  exact ⟨mS_f h1 (e 61 (by decide) (by decide)), mKe_f h2 (by rw [e 60 (by decide) (by decide)]) (e 62 (by decide) (by decide)), mTp_f h3 (by rw [e 60 (by decide) (by decide)]) (e 72 (by decide) (by decide)), mRo_f h4 (by rw [e 60 (by decide) (by decide)]) (e 71 (by decide) (by decide)), mHo_f h5 (fun k a b => e k (by omega) (by omega)), mAc_f h6 (by rw [e 60 (by decide) (by decide)]) (e 79 (by decide) (by decide))⟩
theorem RC_kk {x : zXx} {σ τ : zM} (h : RC x σ) (s : zsm zBm σ τ) : RC x τ := by
  obtain ⟨h1, h2, h3, h4, h5, h6⟩ := h
  have e : ∀ g k, k < 60 → τ.1 g k = σ.1 g k := fun g k a => funext fun i => (s g k i (zBm_n a)).1
  refine ⟨cA_c h1 (fun k a _ _ _ => e 0 k (by omega)) (by rw [e 0 19 (by decide)]), cKe_f h2 (by rw [e 0 30 (by decide)]) (fun k a => e 2 k (by omega)), cTp_f h3 (by rw [e 0 31 (by decide)]) (e 0 32 (by decide)), cRo_f h4 (by rw [e 0 38 (by decide)]) (fun k => e k 40 (by decide)), fun j hj => ?_, cAc_f h6 (by rw [e 0 49 (by decide)]) (e 0 50 (by decide))⟩
  have e2 : ∀ i, τ.2 j 45 i = σ.2 j 45 i := fun i => (s j 45 i (zBm_n (by decide))).2
  rw [e 0 42 (by decide), e 0 43 (by decide), e 0 46 (by decide), e 0 47 (by decide), e 0 48 (by decide)]
  obtain ⟨a1, a2, a3, a4⟩ := h5 j hj
  exact ⟨a1, a2, fun q i hi => (e2 i).trans (a3 q i hi), a4⟩
def zJ (L : Nat) (xs : Nat → Int32) (σ : zM) : Prop := zscr L xs σ ∧ ∃ x, WX x ∧ RC x σ ∧ RM x σ
theorem zcl0 {J J2 : Nat} {as : List zV} {L : Nat} {xs : Nat → Int32} {σ : zM} (hc : ∀ x, WX x → zCall0 J J2 as x) (a1 : zAl zBc as) (a2 : zAl zBm as) (h : zJ L xs σ) : ∃ v w1 σ1, zev 64 J (.inr (.inr (0, 30)) :: as) σ = some (v, w1, σ1) ∧ zscr L xs σ1 ∧ ∃ v2 w2 σ2, zev 64 J2 (.inr (.inr (0, 60)) :: as) σ1 = some (v2, w2, σ2) ∧ zJ L xs σ2 := by
  obtain ⟨s, x, w, h1, h2⟩ := h
  obtain ⟨x', w', c1, c2⟩ := hc x w
  obtain ⟨v, w1, σ1, e1, r1⟩ := c1 σ h1
  have m1 := RM_kk h2 (zev_sm zBc_cl e1 (yAr (by decide) a1))
  obtain ⟨v2, w2, σ2, e2, r2⟩ := c2 σ1 m1
  have s1 := zev_sc (zscr_sc L xs) 64 _ _ _ _ e1 s
  exact ⟨v, w1, σ1, e1, s1, v2, w2, σ2, e2, zev_sc (zscr_sc L xs) 64 _ _ _ _ e2 s1, x', w', RC_kk r1 (zev_sm zBm_cl e2 (yAr (by decide) a2)), r2⟩
theorem zcl1 {J J2 : Nat} {as : List zV} {L : Nat} {xs : Nat → Int32} {σ : zM} (hc : ∀ x, WX x → zCall J J2 as x) (a1 : zAl zBc as) (a2 : zAl zBm as) (h : zJ L xs σ) : ∃ v w1 σ1, zev 64 J (.inr (.inr (0, 30)) :: as) σ = some (v, w1, σ1) ∧ zscr L xs σ1 ∧ ∃ w2 σ2, zev 64 J2 (.inr (.inr (0, 60)) :: as) σ1 = some (v, w2, σ2) ∧ zJ L xs σ2 := by
  obtain ⟨s, x, w, h1, h2⟩ := h
  obtain ⟨x', v, w', c1, c2⟩ := hc x w
  obtain ⟨w1, σ1, e1, r1⟩ := c1 σ h1
  have m1 := RM_kk h2 (zev_sm zBc_cl e1 (yAr (by decide) a1))
  obtain ⟨w2, σ2, e2, r2⟩ := c2 σ1 m1
  have s1 := zev_sc (zscr_sc L xs) 64 _ _ _ _ e1 s
  exact ⟨v, w1, σ1, e1, s1, w2, σ2, e2, zev_sc (zscr_sc L xs) 64 _ _ _ _ e2 s1, x', w', RC_kk r1 (zev_sm zBm_cl e2 (yAr (by decide) a2)), r2⟩
theorem bt_0 (i : Nat) : bt 0 i = false := by
  unfold bt
  show (0#32).getLsbD i = false
  exact BitVec.getLsbD_zero
def zx0 : zXx := (fun i => if i = 6 then 1 else 0, fun _ => 0, false, (0, fun _ => 0), (0, fun _ _ => 0), (fun _ => -1, fun _ => 0, fun _ _ => 0, fun _ => 0, fun _ => 0, fun _ => 0), (0, fun _ => 0))
theorem zN0 {P : Nat → Prop} (k : Nat) (hk : k < (0 : Int).toNat) : P k := absurd hk (Nat.not_lt_zero k)
theorem WX_0 : WX zx0 := by
  have a : wA zx0.1 := ⟨⟨by decide, by decide, fun b hb => zN0 (P := fun b => 1 ≤ zx0.1 (7 + 5 * b) ∧ zx0.1 (7 + 5 * b) ≤ 5 ∧ 0 ≤ zx0.1 (8 + 5 * b) ∧ zx0.1 (8 + 5 * b) ≤ b ∧ 1 ≤ zx0.1 (9 + 5 * b) ∧ zx0.1 (9 + 5 * b) ≤ 9 ∧ 1 ≤ zx0.1 (10 + 5 * b) ∧ zx0.1 (10 + 5 * b) ≤ 999 ∧ 0 ≤ zx0.1 (11 + 5 * b) ∧ zx0.1 (11 + 5 * b) ≤ 1) b hb⟩, ⟨by decide, by decide, by decide, by decide⟩, ⟨by decide, by decide, fun b hb => absurd hb (Nat.not_lt_zero b)⟩, ⟨by decide, by decide, fun b hb => absurd hb (Nat.not_lt_zero b)⟩, ⟨by decide, by decide, fun b hb => absurd hb (Nat.not_lt_zero b)⟩, by decide⟩
  refine ⟨a, fun q => absurd q (show ¬ (false = true) by decide), ⟨Nat.zero_le _, fun i hi => absurd hi (Nat.not_lt_zero i)⟩, ⟨Nat.zero_le _, fun i _ hi => absurd hi (Nat.not_lt_zero i)⟩, fun j hj => ?_, ⟨Nat.zero_le _, fun i hi => absurd hi (Nat.not_lt_zero i)⟩, fun b hb => absurd hb (Nat.not_lt_zero b), fun q => absurd q (show ¬ (false = true) by decide)⟩
  show (-1 : Int) ≤ -1 ∧ (-1 : Int) ≤ 4 ∧ (0 : Int) ≤ 0 ∧ (0 : Int) ≤ 40 ∧ (∀ i : Nat, i < 40 → zrn 0) ∧ (0 : Int) ≤ 0 ∧ (0 : Int) ≤ 2 ∧ ((0 : Int) ≠ 0 → (0 : Int) ≤ 0 ∧ (0 : Int) ≤ 40) ∧ (-1 : Int) ≤ 0 ∧ (0 : Int) ≤ 4
  exact ⟨by decide, by decide, by decide, by decide, fun _ _ => by decide, by decide, by decide, fun q => absurd rfl q, by decide, by decide⟩
theorem nn1 {P : Prop} (q : (0 : Int) ≤ -1) : P := absurd q (by decide)
theorem RC_0 (L : Nat) (xs : Nat → Int32) : RC zx0 (zS0 L xs) := by
  refine ⟨⟨⟨rfl, fun b hb => absurd hb (Nat.not_lt_zero b)⟩, fun b hb => ?_, ⟨rfl, rfl⟩, ⟨rfl, fun b hb => absurd hb (Nat.not_lt_zero b)⟩, ⟨rfl, fun b hb => absurd hb (Nat.not_lt_zero b)⟩, ⟨rfl, fun b hb => absurd hb (Nat.not_lt_zero b)⟩, rfl⟩, ⟨rfl, fun q => absurd q (show ¬ (false = true) by decide)⟩, ⟨rfl, fun i hi => absurd hi (Nat.not_lt_zero i)⟩, ⟨rfl, fun i _ hi => absurd hi (Nat.not_lt_zero i)⟩, fun j hj => ?_, ⟨rfl, fun i hi => absurd hi (Nat.not_lt_zero i)⟩⟩
  · have e : (decide (b < (zx0.1 0).toNat) && aBrk zx0.1 b) = false := by
      rw [decide_eq_false (show ¬ b < (zx0.1 0).toNat from Nat.not_lt_zero b)]; rfl
    rw [e]
    exact bt_0 b
  · exact ⟨zlitm1, fun q => nn1 q, fun q => nn1 q, rfl, fun q => absurd rfl q, fun q => absurd q (show ¬ (0 : Int) = 2 by decide)⟩
theorem RM_0 (L : Nat) (xs : Nat → Int32) : RM zx0 (zS0 L xs) := by
  refine ⟨fun i hi => ?_, ⟨rfl, fun q => absurd q (show ¬ (false = true) by decide)⟩, ⟨rfl, fun i hi => absurd hi (Nat.not_lt_zero i)⟩, ⟨rfl, fun i _ hi => absurd hi (Nat.not_lt_zero i)⟩, fun j hj => ?_, ⟨rfl, fun i hi => absurd hi (Nat.not_lt_zero i)⟩⟩
  · show z0c 61 i = iI (if i = 6 then 1 else 0)
    unfold z0c
    by_cases q : i = 6
    · rw [if_neg (by omega), if_neg (by omega), if_pos ⟨rfl, q⟩, if_pos q]; rfl
    · rw [if_neg (by omega), if_neg (by omega), if_neg (by omega), if_neg (by omega), if_neg q]; rfl
  · exact ⟨zlitm1, fun q => nn1 q, fun q => nn1 q, ⟨0, rfl, by decide, by decide⟩, rfl, fun q => absurd rfl q, fun q => absurd q (show ¬ (0 : Int) = 2 by decide)⟩
theorem zJ_0 (L : Nat) (xs : Nat → Int32) : zJ L xs (zS0 L xs) := ⟨⟨rfl, fun j _ => rfl⟩, zx0, WX_0, RC_0 L xs, RM_0 L xs⟩
theorem yin {L : Nat} {xs : Nat → Int32} {σ : zM} {z : Int} (h : zscr L xs σ) (hL : L ≤ 2560) (h0 : 0 ≤ z) (h1 : z < L) : zin (iI z) (zslen σ) = true := by
  unfold zin zslen
  rw [h.1, nI_iI, iI_Nn (by omega), iI_N h0 (by omega), Bool.and_eq_true]
  refine ⟨decide_eq_true ?_, Nat.blt_eq.mpr (by omega)⟩
  rw [Int32.le_iff_toInt_le, t_iI (by omega)]
  exact h0
theorem ygd {L : Nat} {xs : Nat → Int32} {σ : zM} {i : Nat} {k : Int} (h : zscr L xs σ) (hL : L ≤ 2560) (hi : i + 5 ≤ L) (hk : 0 ≤ k ∧ k ≤ 4) {X : zR} : zgd (zin (iI i + iI k) (zslen σ)) X = X := by
  rw [iI_add]
  exact zgd_t (yin h hL (by omega) (by omega))
theorem yrd {L : Nat} {xs : Nat → Int32} {σ : zM} {i k : Nat} (h : zscr L xs σ) (hL : L ≤ 2560) (hi : i + 5 ≤ L) (hk : k ≤ 4) : σ.1 0 90 (Int32.toNatClampNeg (iI i + iI (k : Int))) = xs (i + k) := by
  rw [iI_add, iI_Nk (n := i + k) (by omega) (by omega)]
  exact h.2 (i + k) (by omega)
abbrev zl5 (i : Nat) : zL := [some (.inr (.inr (0, 90))), some (.inr (.inr (0, 30))), some (.inr (.inr (0, 60))), some (.inl (iI i))]
