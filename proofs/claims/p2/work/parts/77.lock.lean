def tS (t : zXt) (s : Nat) : Prop := s ≤ t.1 ∧ (s < t.1 → t.2 s ≠ 32)
theorem tS_nx {t : zXt} {s : Nat} (h : s ≤ t.1) : tS t (nx t s) := ⟨(nx_l h).2, fun q => aTs_n (aTf_l h).2 q⟩
theorem aTf_e {t : zXt} {s : Nat} (h : s < t.1) : aTf t s = aTe t s := if_pos h
theorem nx_g {t : zXt} {s : Nat} (h : s < t.1) : s < nx t s := by
  have h1 := aTe_l h
  have h2 := aTs_l (t := t) (p := aTf t s) (by rw [aTf_e h]; exact h1.2)
  rw [aTf_e h] at h2
  unfold nx
  rw [aTf_e h]
  omega
theorem aWe_r {t : zXt} {s : Nat} : -99 ≤ aWe t s ∧ aWe t s ≤ 9999 := by
  have n2 := (aWe_n (t := t) (s := s)).2
  by_cases q : 0 ≤ aWe t s
  · have := (n2 q).2.2; omega
  · refine ⟨?_, by omega⟩
    unfold aWe
    split
    · unfold aWd
      cases aLt (t.2 s)
      · rw [cond_false]
        cases q3 : aDg (t.2 s)
        · rw [cond_false]
          rcases aSg_v (t.2 s) with e | e | e | e | e | e | e <;> omega
        · rename_i q2
          rw [cond_true]
          split
          · omega
          · have := (aNv_r (t := t) (s := s) (aTe t s - s) (aTe_d (aDL q3) q3)).1
            omega
      · rw [cond_true]
        rcases aNwd_i (aIs t s) with ⟨i, i1, i2, i3⟩ | ⟨-, h2⟩
        · rw [i3]
          exact (by decide +kernel : ∀ i, i < 18 → -99 ≤ zCd.getD i 0) i i1
        · omega
    · omega
theorem aWe_e {t : zXt} {s : Nat} (h : ¬ s < t.1) : aWe t s = -99 := if_neg h
theorem aWe_d {t : zXt} {s : Nat} (h : s < t.1) : aWe t s = aWd t s := if_pos h
theorem aWe_s {t : zXt} {s : Nat} (h : aWe t s ≠ -99) : s < t.1 := Classical.byContradiction fun q => h (aWe_e q)
theorem zFr_dr {c0 : Nat} {σ τ : zM} (f : zFr (Wcd c0) σ τ) : zFr Wrd σ τ := zFr_i f fun _ _ _ q => by omega
theorem cGo {t : zXt} {d u n c0 o u2 o2 s b : Nat} {L R L2 R2 : List Int} {σ : zM} (w : wT t) (ht : tS t s) (hs : s < t.1) (hb : b ≤ s) (hn : n < 8) (h : cAt t u n c0 o L R σ) (hk : cTk t d u n c0 o L R (aWe t s) u2 o2 L2 R2) : ∃ τ, cLp d (iI b) (iI s) σ = cLp d (iI (aTf t s : Nat)) (iI (nx t s : Nat)) τ ∧ zFr (Wcd c0) σ τ ∧ cAt t u2 n c0 o2 L2 R2 τ := by
  obtain ⟨τ, e1, e2, e3⟩ := hk σ h
  rw [aWe_d hs] at e1
  refine ⟨τ, ?_, e2, e3⟩
  rw [cLp_t h.1 w hs (ht.2 hs) hb h.2.2.1 hn e1 (zFr_dr e2)]
  unfold nx
  rw [aTf_e hs]
theorem cGn {t : zXt} {d u n c0 o s b : Nat} {L R : List Int} {σ : zM} (w : wT t) (ht : tS t s) (hs : s < t.1) (hb : b ≤ s) (hn : n < 8) (h : cAt t u n c0 o L R σ) (hk : cNo t d u n c0 o L R (aWe t s)) : cLp d (iI b) (iI s) σ = some (iI s, 0, σ) := by
  have e1 := hk σ h
  rw [aWe_d hs] at e1
  exact cLp_x h.1 w hs (ht.2 hs) hb h.2.2.1 hn e1
theorem cGe {t : zXt} {d u n c0 o s b : Nat} {L R : List Int} {σ : zM} (w : wT t) (ht : tS t s) (hs : ¬ s < t.1) (h : cAt t u n c0 o L R σ) (hu : 1 ≤ u ∧ u ≤ 7) : cLp d (iI b) (iI s) σ = some (iI s, 0, σ) := by
  have e : s = t.1 := by have := ht.1; omega
  have c := cLp_e (d := d) (b := b) h.1 w h.2.1 hu.2
  rw [if_neg (by omega)] at c
  rw [e]
  exact c
theorem cGx {t : zXt} {d u n c0 o s b : Nat} {L R : List Int} {σ : zM} (w : wT t) (ht : tS t s) (hb : b ≤ s) (hn : n < 8) (h : cAt t u n c0 o L R σ) (hu : 1 ≤ u ∧ u ≤ 7) (hk : s < t.1 → cNo t d u n c0 o L R (aWe t s)) : cLp d (iI b) (iI s) σ = some (iI s, 0, σ) := by
  by_cases q : s < t.1
  · exact cGn w ht q hb hn h (hk q)
  · exact cGe w ht q h hu
def aPut (S : zS) : Nat → List Int → zS
  | _, [] => S
  | m, a :: A => aPut (zup S (120 + m) a) (m + 1) A
theorem aPut_a : ∀ (A A2 : List Int) (S : zS) (m : Nat), aPut S m (A ++ A2) = aPut (aPut S m A) (m + A.length) A2
  | [], _, _, _ => rfl
  | a :: A, A2, S, m => by
    show aPut (zup S (120 + m) a) (m + 1) (A ++ A2) = aPut (aPut (zup S (120 + m) a) (m + 1) A) (m + (A.length + 1)) A2
    rw [aPut_a A A2, show m + (A.length + 1) = m + 1 + A.length by omega]
def mGo (t : zXt) (X : zM → zR) (o s s2 : Nat) (A : List Int) : Prop := ∀ m S σ, mOk t s m o S σ → m + 4 ≤ s → ∃ τ, X σ = some (0, 0, τ) ∧ zFr Wmp σ τ ∧ mOk t s2 (m + A.length) o (aPut S m A) τ
def mNo (t : zXt) (X : zM → zR) (o s s2 : Nat) : Prop := ∀ m S σ, mOk t s m o S σ → m + 4 ≤ s → ∃ τ, X σ = some (0, 0, τ) ∧ zFr Wmp σ τ ∧ mBd t s2 o τ
def rR (R : List Int) : Prop := ∀ u, u ∈ R → zrn u
def kGo (t : zXt) (d n o s s2 : Nat) (j : Int) (B : List Int) : Prop := ∀ c0 L R b σ, b ≤ s → cAt t 4 n c0 o L R σ → tp j R → rR R → c0 + L.length + R.length + 4 ≤ s → ∃ b2 τ L2 R2, b2 ≤ s2 ∧ cLp d (iI b) (iI s) σ = cLp d (iI (b2 : Nat)) (iI (s2 : Nat)) τ ∧ zFr (Wcd c0) σ τ ∧ cAt t 7 n c0 o L2 R2 τ ∧ dW j R2 = R ∧ L2 ++ pW j R2 = L ++ B ∧ rR R2 ∧ c0 + L2.length + R2.length + 4 ≤ s2
def kNo (t : zXt) (d n o s s2 : Nat) (j : Int) : Prop := ∀ c0 L R b σ, b ≤ s → cAt t 4 n c0 o L R σ → tp j R → rR R → c0 + L.length + R.length + 4 ≤ s → ∃ τ, cLp d (iI b) (iI s) σ = some (iI (s2 : Nat), 0, τ) ∧ zFr (Wcd c0) σ τ
def nQ (t : zXt) (j : Int) (s : Nat) : Prop := ∀ g, j ≤ g → g ≤ -10 → aWe t s ≠ g
def zOu (t : zXt) (d n o s H : Nat) (j : Int) (X : zM → zR) : Prop := (∃ s2 B A, s2 ≤ t.1 ∧ tS t s2 ∧ A.length + s ≤ s2 ∧ B.length + s ≤ s2 ∧ eqv H B A ∧ nQ t j s2 ∧ mGo t X o s s2 A ∧ kGo t d n o s s2 j B) ∨ (∃ s2, s2 ≤ t.1 ∧ mNo t X o s s2 ∧ kNo t d n o s s2 j)
def kLo (t : zXt) (d n o s s2 : Nat) (j : Int) (B : List Int) : Prop := ∀ c0 L R b σ, b ≤ s → cAt t 7 n c0 o L R σ → rR R → c0 + L.length + R.length + 4 ≤ s → ∃ b2 τ L2 R2, b2 ≤ s2 ∧ cLp d (iI b) (iI s) σ = cLp d (iI (b2 : Nat)) (iI (s2 : Nat)) τ ∧ zFr (Wcd c0) σ τ ∧ cAt t 7 n c0 o L2 R2 τ ∧ dW j R2 = dW j R ∧ L2 ++ pW j R2 = L ++ pW j R ++ B ∧ rR R2 ∧ c0 + L2.length + R2.length + 4 ≤ s2
def kLn (t : zXt) (d n o s s2 : Nat) (j : Int) : Prop := ∀ c0 L R b σ, b ≤ s → cAt t 7 n c0 o L R σ → rR R → c0 + L.length + R.length + 4 ≤ s → ∃ τ, cLp d (iI b) (iI s) σ = some (iI (s2 : Nat), 0, τ) ∧ zFr (Wcd c0) σ τ
def zLo (t : zXt) (d n o s H : Nat) (j : Int) (X : zM → zR) : Prop := (∃ s2 B A, s2 ≤ t.1 ∧ tS t s2 ∧ A.length + s ≤ s2 ∧ B.length + s ≤ s2 ∧ eqt H B A ∧ nQ t j s2 ∧ mGo t X o s s2 A ∧ kLo t d n o s s2 j B) ∨ (∃ s2, s2 ≤ t.1 ∧ mNo t X o s s2 ∧ kLn t d n o s s2 j)
theorem mOk_F {t : zXt} {s m o : Nat} {S : zS} {σ : zM} (h : mOk t s m o S σ) : mOk t s m o S σ ∧ σ.1 0 60 24 = zB false := ⟨h, h.2.1⟩
theorem lp_x {t : zXt} {D s o : Nat} {J : Nat} {h0 : Int64} {V : Int32} {X : zM → zR} {σ : zM} (w : wT t) (hX : ∀ σ, X σ = (zev (D + 6) 237 [.inr (.inr (0, 60))] σ).bind fun x0 => if (lg_cmp x0.2.1 h0) = 0 then ((zev (D + 6) 236 [.inr (.inr (0, 60)), .inl 1] x0.2.2).bind fun x1 => (zev (D + 6) J [.inr (.inr (0, 60))] x1.2.2).bind fun x2 => (zev (D + 6) 241 [.inr (.inr (0, 60)), .inl V] x2.2.2).bind fun x3 => X x3.2.2) else (some (0, 0, x0.2.2))) (h : mBd t s o σ) (hs : s ≤ t.1) (hh : ¬ lg_cmp 0 h0 = 0) : X σ = some (0, 0, σ) := by
  rw [hX, zm237 (d := D + 2) w h.1 hs h.2.1]
  simp only [zbs, cond_true]
  rw [if_neg hh]
theorem zLo_i {t : zXt} {d D n o H J : Nat} {g : Nat} {j : Int} {V : Int} {X : zM → zR} (w : wT t) (hn : n < 8) (hg : g < 18) (hj : zCd.getD g 0 = j) (hj2 : j = -10 ∨ j = -11) (hJ : ∀ B A, eqv H B A → eqt (H + 1) (B ++ [j]) (A ++ [V]))
  (hX : ∀ σ, X σ = (zev (D + 6) 237 [.inr (.inr (0, 60))] σ).bind fun x0 => if (lg_cmp x0.2.1 (lI (zKw.getD g 0))) = 0 then ((zev (D + 6) 236 [.inr (.inr (0, 60)), .inl 1] x0.2.2).bind fun x1 => (zev (D + 6) J [.inr (.inr (0, 60))] x1.2.2).bind fun x2 => (zev (D + 6) 241 [.inr (.inr (0, 60)), .inl (iI V)] x2.2.2).bind fun x3 => X x3.2.2) else (some (0, 0, x0.2.2)))
  (hI : ∀ s, tS t s → zOu t d n o s H (j + 1) (zev (D + 6) J [.inr (.inr (0, 60))])) : ∀ (N s : Nat), t.1 ≤ s + N → tS t s → nQ t (j + 1) s → zLo t d n o s (H + 1) j X := by
  have hl := w.1
  have h00 : ¬ lg_cmp 0 (lI (zKw.getD g 0)) = 0 := by
    have kp := (by decide +kernel : ∀ g, g < 18 → 1 ≤ zKw.getD g 0 ∧ zKw.getD g 0 ≤ 1125899906842624) g hg
    rw [lg_cmp_eq]
    intro e
    have := congrArg Int64.toInt e
    rw [lI_tt (by omega), show (0 : Int64).toInt = 0 by decide] at this
    omega
  intro N
  induction N with
  | zero =>
    intro s hN ht hq
    have q : ¬ s < t.1 := by omega
    refine Or.inl ⟨s, [], [], ht.1, ht, by rw [List.length_nil]; omega, by rw [List.length_nil]; omega, eqt_0, fun g g1 g2 => by rw [aWe_e q]; omega, fun m S σ h hm => ?_, fun c0 L R b σ hb h hr hk => ?_⟩
    · refine ⟨σ, ?_, zFr_r σ, h⟩
      rw [hX, zm237 (d := D + 2) w h.1 ht.1 h.2.1]
      simp only [zbs, cond_false]
      rw [if_neg (by rw [aWe_k w ht.1 hg, aWe_e q, hj]; omega)]
    · exact ⟨b, σ, L, R, hb, rfl, zFr_r σ, h, rfl, (List.append_nil _).symm, hr, hk⟩
  | succ N ih =>
    intro s hN ht hq
    by_cases qw : aWe t s = j
    case neg =>
      refine Or.inl ⟨s, [], [], ht.1, ht, by rw [List.length_nil]; omega, by rw [List.length_nil]; omega, eqt_0, fun g g1 g2 => by
        by_cases e : g = j
        · rw [e]; exact qw
        · exact hq g (by omega) g2, fun m S σ h hm => ?_, fun c0 L R b σ hb h hr hk => ?_⟩
      · refine ⟨σ, ?_, zFr_r σ, h⟩
        rw [hX, zm237 (d := D + 2) w h.1 ht.1 h.2.1]
        simp only [zbs, cond_false]
        rw [if_neg (by rw [aWe_k w ht.1 hg, hj]; exact qw)]
      · exact ⟨b, σ, L, R, hb, rfl, zFr_r σ, h, rfl, (List.append_nil _).symm, hr, hk⟩
    case pos =>
    have hs : s < t.1 := aWe_s (by omega)
    have hx := nx_g hs
    have hx2 := nx_l ht.1
    have ht2 := tS_nx ht.1
    have mh : ∀ m S σ, mOk t s m o S σ → ∃ τ, zFr Wmp σ τ ∧ mOk t (nx t s) m o S τ ∧ X σ = (zev (D + 6) J [.inr (.inr (0, 60))] τ).bind fun x2 => (zev (D + 6) 241 [.inr (.inr (0, 60)), .inl (iI V)] x2.2.2).bind fun x3 => X x3.2.2 := fun m S σ h => by
      obtain ⟨τ, f1, f2, f3, f4⟩ := zm236t (d := D + 1) w h.1 (aTf_l ht.1).2 h.2.1
      refine ⟨τ, zFr_i f2 fun _ _ _ q => by omega, ⟨f3, f4, mMm_f h.2.2 f2⟩, ?_⟩
      rw [hX, zm237 (d := D + 2) w h.1 ht.1 h.2.1]
      simp only [zbs, cond_false]
      rw [if_pos (by rw [aWe_k w ht.1 hg, hj]; exact qw), f1]
      rfl
    have ch : ∀ c0 L R b σ, b ≤ s → cAt t 7 n c0 o L R σ → rR R → c0 + L.length + R.length + 4 ≤ s → ∃ τ, cLp d (iI b) (iI s) σ = cLp d (iI (aTf t s : Nat)) (iI (nx t s : Nat)) τ ∧ zFr (Wcd c0) σ τ ∧ cAt t 4 n c0 o (L ++ pW j R) (j :: dW j R) τ ∧ aTf t s ≤ nx t s ∧ tp (j + 1) (j :: dW j R) ∧ rR (j :: dW j R) ∧ c0 + (L ++ pW j R).length + (j :: dW j R).length + 4 ≤ nx t s := fun c0 L R b σ hb h hr hk => by
      have tk := t7j (t := t) (d := d) (n := n) (c0 := c0) (o := o) (L := L) (R := R) (W := j) hj2 hr (by omega)
      rw [← qw] at tk
      obtain ⟨τ, e1, e2, e3⟩ := cGo w ht hs hb hn h tk
      rw [qw] at e3
      have pl := pW_l (j := j) R
      refine ⟨τ, e1, e2, e3, (aTs_l (aTf_l ht.1).2).1, show j < j + 1 by omega, fun u hu => ?_, ?_⟩
      · rcases List.mem_cons.mp hu with e | e
        · rw [e]; omega
        · exact dW_z hr u e
      · rw [List.length_append, List.length_cons]; omega
    rcases hI (nx t s) ht2 with ⟨s3, Bi, Ai, o1, o2, o3, o8, o4, o7, o5, o6⟩ | ⟨s3, o1, o5, o6⟩
    case inr =>
      refine Or.inr ⟨s3, o1, fun m S σ h hm => ?_, fun c0 L R b σ hb h hr hk => ?_⟩
      · obtain ⟨τ, f1, f2, f3⟩ := mh m S σ h
        obtain ⟨υ, y1, y2, y3⟩ := o5 m S τ f2 (by omega)
        refine ⟨υ, ?_, zFr_tt f1 y2, y3⟩
        rw [f3, y1]
        simp only [zbs, zm241x (d := D + 5) y3.2.1]
        exact lp_x w hX y3 o1 h00
      · obtain ⟨τ, e1, e2, e3, e4, e5, e6, e7⟩ := ch c0 L R b σ hb h hr hk
        obtain ⟨υ, y1, y2⟩ := o6 c0 _ _ _ τ e4 e3 e5 e6 e7
        exact ⟨υ, e1.trans y1, zFr_tt e2 y2⟩
    case inl =>
    have mi : ∀ m S σ, mOk t s m o S σ → m + 4 ≤ s → ∃ τ, zFr Wmp σ τ ∧ mOk t s3 (m + Ai.length + 1) o (aPut S m (Ai ++ [V])) τ ∧ X σ = X τ := fun m S σ h hm => by
      obtain ⟨τ, f1, f2, f3⟩ := mh m S σ h
      obtain ⟨υ, y1, y2, y3⟩ := o5 m S τ f2 (by omega)
      obtain ⟨φ, z1, z2, z3⟩ := zm241 (d := D + 5) (p := V) y3 (by omega)
      refine ⟨φ, zFr_tt (zFr_tt f1 y2) z2, ?_, ?_⟩
      · rw [aPut_a]; exact z3
      · rw [f3, y1]
        simp only [zbs, z1]
    have ci : ∀ c0 L R b σ, b ≤ s → cAt t 7 n c0 o L R σ → rR R → c0 + L.length + R.length + 4 ≤ s → ∃ b2 τ L2 R2, b2 ≤ s3 ∧ cLp d (iI b) (iI s) σ = cLp d (iI (b2 : Nat)) (iI (s3 : Nat)) τ ∧ zFr (Wcd c0) σ τ ∧ cAt t 7 n c0 o L2 R2 τ ∧ dW j R2 = dW j R ∧ L2 ++ pW j R2 = L ++ pW j R ++ (Bi ++ [j]) ∧ rR R2 ∧ c0 + L2.length + R2.length + 4 ≤ s3 := fun c0 L R b σ hb h hr hk => by
      obtain ⟨τ, e1, e2, e3, e4, e5, e6, e7⟩ := ch c0 L R b σ hb h hr hk
      obtain ⟨b2, υ, L2, R2, y1, y2, y3, y4, y5, y6, y7, y8⟩ := o6 c0 _ _ _ τ e4 e3 e5 e6 e7
      have p2 := pW_2 (j := j) (j1 := j + 1) (by omega) R2
      have p0 := tp_0 (dW_t (j := j) (R := R))
      refine ⟨b2, υ, L2, R2, y1, e1.trans y2, zFr_tt e2 y3, y4, ?_, ?_, y7, y8⟩
      · rw [p2.2, y5, pW_j.2, p0.2]
      · rw [p2.1, y5, pW_j.1, p0.1, ← List.append_assoc, y6, List.append_assoc (L ++ pW j R)]
    rcases ih s3 (by omega) o2 o7 with ⟨s4, B2, A2, r1, r2, r3, r8, r4, r7, r5, r6⟩ | ⟨s4, r1, r5, r6⟩
    · refine Or.inl ⟨s4, Bi ++ [j] ++ B2, Ai ++ [V] ++ A2, r1, r2, ?_, ?_, eqt_t (hJ Bi Ai o4) r4, r7, fun m S σ h hm => ?_, fun c0 L R b σ hb h hr hk => ?_⟩
      · rw [List.length_append, List.length_append, List.length_singleton]; omega
      · rw [List.length_append, List.length_append, List.length_singleton]; omega
      · obtain ⟨τ, f1, f2, f3⟩ := mi m S σ h hm
        obtain ⟨υ, y1, y2, y3⟩ := r5 _ _ τ f2 (by omega)
        refine ⟨υ, f3.trans y1, zFr_tt f1 y2, ?_⟩
        have e1 : m + (Ai ++ [V] ++ A2).length = m + Ai.length + 1 + A2.length := by
          rw [List.length_append, List.length_append, List.length_singleton]; omega
        have e2 : m + (Ai ++ [V]).length = m + Ai.length + 1 := by rw [List.length_append, List.length_singleton]; omega
        rw [e1, aPut_a, e2]
        exact y3
      · obtain ⟨b2, τ, L2, R2, e1, e2, e3, e4, e5, e6, e7, e8⟩ := ci c0 L R b σ hb h hr hk
        obtain ⟨b3, υ, L3, R3, y1, y2, y3, y4, y5, y6, y7, y8⟩ := r6 c0 L2 R2 b2 τ e1 e4 e7 e8
        refine ⟨b3, υ, L3, R3, y1, e2.trans y2, zFr_tt e3 y3, y4, y5.trans e5, ?_, y7, y8⟩
        rw [y6, e6, List.append_assoc (L ++ pW j R)]
    · refine Or.inr ⟨s4, r1, fun m S σ h hm => ?_, fun c0 L R b σ hb h hr hk => ?_⟩
      · obtain ⟨τ, f1, f2, f3⟩ := mi m S σ h hm
        obtain ⟨υ, y1, y2, y3⟩ := r5 _ _ τ f2 (by omega)
        exact ⟨υ, f3.trans y1, zFr_tt f1 y2, y3⟩
      · obtain ⟨b2, τ, L2, R2, e1, e2, e3, e4, e5, e6, e7, e8⟩ := ci c0 L R b σ hb h hr hk
        obtain ⟨υ, y1, y2⟩ := r6 c0 L2 R2 b2 τ e1 e4 e7 e8
        exact ⟨υ, e2.trans y1, zFr_tt e3 y2⟩
theorem zOu_l {t : zXt} {d n o H : Nat} {j : Int} {X0 X Y : zM → zR} (w : wT t) (hY : ∀ σ, σ.1 0 60 24 = zB false → Y σ = (X0 σ).bind fun x0 => X x0.2.2) (hx : ∀ s σ, s ≤ t.1 → mBd t s o σ → X σ = some (0, 0, σ))
  (hI : ∀ s, tS t s → zOu t d n o s H (j + 1) X0) (hL : ∀ s, tS t s → nQ t (j + 1) s → zLo t d n o s (H + 1) j X) : ∀ s, tS t s → zOu t d n o s (H + 1) j Y := by
  intro s ht
  rcases hI s ht with ⟨s3, Bi, Ai, o1, o2, o3, o8, o4, o7, o5, o6⟩ | ⟨s3, o1, o5, o6⟩
  · have mi : ∀ m S σ, mOk t s m o S σ → m + 4 ≤ s → ∃ τ, zFr Wmp σ τ ∧ mOk t s3 (m + Ai.length) o (aPut S m Ai) τ ∧ Y σ = X τ := fun m S σ h hm => by
      obtain ⟨υ, y1, y2, y3⟩ := o5 m S σ h hm
      refine ⟨υ, y2, y3, ?_⟩
      rw [hY σ h.2.1, y1]
      rfl
    have ci : ∀ c0 L R b σ, b ≤ s → cAt t 4 n c0 o L R σ → tp j R → rR R → c0 + L.length + R.length + 4 ≤ s → ∃ b2 τ L2 R2, b2 ≤ s3 ∧ cLp d (iI b) (iI s) σ = cLp d (iI (b2 : Nat)) (iI (s3 : Nat)) τ ∧ zFr (Wcd c0) σ τ ∧ cAt t 7 n c0 o L2 R2 τ ∧ dW j R2 = R ∧ L2 ++ pW j R2 = L ++ Bi ∧ rR R2 ∧ c0 + L2.length + R2.length + 4 ≤ s3 := fun c0 L R b σ hb h hp hr hk => by
      obtain ⟨b2, υ, L2, R2, y1, y2, y3, y4, y5, y6, y7, y8⟩ := o6 c0 L R b σ hb h (tp_m (by omega) hp) hr hk
      have p2 := pW_2 (j := j) (j1 := j + 1) (by omega) R2
      have p0 := tp_0 hp
      refine ⟨b2, υ, L2, R2, y1, y2, y3, y4, ?_, ?_, y7, y8⟩
      · rw [p2.2, y5, p0.2]
      · rw [p2.1, y5, p0.1, List.append_nil, y6]
    rcases hL s3 o2 o7 with ⟨s4, B2, A2, r1, r2, r3, r8, r4, r7, r5, r6⟩ | ⟨s4, r1, r5, r6⟩
    · refine Or.inl ⟨s4, Bi ++ B2, Ai ++ A2, r1, r2, by rw [List.length_append]; omega, by rw [List.length_append]; omega, eqv_t (eqv_m o4 (by omega)) r4, r7, fun m S σ h hm => ?_, fun c0 L R b σ hb h hp hr hk => ?_⟩
      · obtain ⟨τ, f1, f2, f3⟩ := mi m S σ h hm
        obtain ⟨υ, y1, y2, y3⟩ := r5 _ _ τ f2 (by omega)
        refine ⟨υ, f3.trans y1, zFr_tt f1 y2, ?_⟩
        rw [List.length_append, ← Nat.add_assoc, aPut_a]
        exact y3
      · obtain ⟨b2, τ, L2, R2, e1, e2, e3, e4, e5, e6, e7, e8⟩ := ci c0 L R b σ hb h hp hr hk
        obtain ⟨b3, υ, L3, R3, y1, y2, y3, y4, y5, y6, y7, y8⟩ := r6 c0 L2 R2 b2 τ e1 e4 e7 e8
        refine ⟨b3, υ, L3, R3, y1, e2.trans y2, zFr_tt e3 y3, y4, y5.trans e5, ?_, y7, y8⟩
        rw [y6, e6, List.append_assoc]
    · refine Or.inr ⟨s4, r1, fun m S σ h hm => ?_, fun c0 L R b σ hb h hp hr hk => ?_⟩
      · obtain ⟨τ, f1, f2, f3⟩ := mi m S σ h hm
        obtain ⟨υ, y1, y2, y3⟩ := r5 _ _ τ f2 (by omega)
        exact ⟨υ, f3.trans y1, zFr_tt f1 y2, y3⟩
      · obtain ⟨b2, τ, L2, R2, e1, e2, e3, e4, e5, e6, e7, e8⟩ := ci c0 L R b σ hb h hp hr hk
        obtain ⟨υ, y1, y2⟩ := r6 c0 L2 R2 b2 τ e1 e4 e7 e8
        exact ⟨υ, e2.trans y1, zFr_tt e3 y2⟩
  · refine Or.inr ⟨s3, o1, fun m S σ h hm => ?_, fun c0 L R b σ hb h hp hr hk => o6 c0 L R b σ hb h (tp_m (by omega) hp) hr hk⟩
    obtain ⟨υ, y1, y2, y3⟩ := o5 m S σ h hm
    refine ⟨υ, ?_, y2, y3⟩
    rw [hY σ h.2.1, y1]
    exact hx s3 υ o1 y3
