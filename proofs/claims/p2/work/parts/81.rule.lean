theorem dOu_i {t : zXt} {d n K s3 : Nat} {dd : Int} (w : wT t) (hn : n < 8) (hs : s3 < t.1) (hd : 0 ≤ dd ∧ dd ≤ 2) : dOu t d n K dd s3 := by
  have hl := w.1
  have t4 := tS_nx (t := t) (s := s3) (by omega)
  have b4 : aTf t (nx t s3) ≤ nx t (nx t s3) := (aTs_l (aTf_l t4.1).2).1
  have r4 := aWe_r (t := t) (s := nx t s3)
  have n4 := nx_l t4.1
  have lt0 : (iI dd < 0) = (dd < 0) := iI_lt0 (by omega)
  have eq2 : (iI dd = 2) = (dd = 2) := iI_eq (b := 2) (by omega) (by decide)
  have mh : ∀ (a : Int) m S σ, mOk t s3 m 0 S σ → ∃ τ, zFr Wmp σ τ ∧ mOk t (nx t s3) m 0 S τ ∧ τ.1 0 60 21 = iI 0 ∧ r104 K (iI a) (iI dd) 1 σ = if dd = 2 then r137 K (iI a) (iI dd) τ else (zev (K + 20) 238 [.inr (.inr (0, 60)), .inl 999] τ).bind fun x1 => r137 K (iI a) (iI dd) x1.2.2 := fun a m S σ h => by
    obtain ⟨τ, f1, f2, f3, f4⟩ := zm236t (d := K + 15) w h.1 (aTf_l (show s3 ≤ t.1 by omega)).2 h.2.1
    have ok : mOk t (nx t s3) m 0 S τ := ⟨f3, f4, mMm_f h.2.2 f2⟩
    have ok2 := mOk_21 (v := 0) ok
    refine ⟨_, zFr_tt (zFr_i f2 fun _ _ _ q => by omega) (zFr_w (by omega)), ok2, by rw [zfs]; rfl, ?_⟩
    rw [r104_e, f1]
    simp only [zbs, lt0, eq2]
    rw [if_neg (by omega), ok2.2.1]
    by_cases q : dd = 2
    · rw [if_pos q, if_pos q]
    · rw [if_neg q, if_neg q, if_pos (by decide)]
  by_cases q2 : dd = 2
  · obtain ⟨y1, y2⟩ := dEn (d := d) (n := n) (K := K) (dd := dd) (am := 0) w hn t4
    by_cases q : aWe t (nx t s3) = -14
    · obtain ⟨z1, z2⟩ := y1 q
      refine Or.inl ⟨nx t (nx t s3), 0, n4.2, tS_nx t4.1, n4.1, by decide, by decide, fun a m S σ h hS => ?_, fun c0 B b σ hb h => ?_⟩
      · obtain ⟨τ, f1, f2, f3, f4⟩ := mh a m S σ h
        obtain ⟨υ, x1, x2, x3⟩ := z1 a m S τ f2 hS f3
        rw [if_pos q2] at f4
        exact ⟨υ, f4.trans x1, zFr_tt (zFr_mr f1) x2, x3⟩
      · rw [if_pos q2] at h
        obtain ⟨τ, e1, e2, e3, e4⟩ := z2 c0 B b σ hb h
        exact ⟨_, τ, b4, e1, zFr_i e2 fun _ _ _ q => by omega, e3, fun z => by omega, e4⟩
    · obtain ⟨z1, z2⟩ := y2 q
      refine Or.inr ⟨nx t s3, t4.1, fun a m S σ h => ?_, fun c0 B b σ hb h => ?_⟩
      · obtain ⟨τ, f1, f2, f3, f4⟩ := mh a m S σ h
        obtain ⟨υ, x1, x2, x3⟩ := z1 a m S τ f2
        rw [if_pos q2] at f4
        exact ⟨υ, f4.trans x1, zFr_tt (zFr_mr f1) x2, x3⟩
      · rw [if_pos q2] at h
        exact ⟨σ, z2 c0 B b σ hb h, zFr_r σ⟩
  · by_cases qa : 0 ≤ aWe t (nx t s3) ∧ aWe t (nx t s3) ≤ 999
    case neg =>
      refine Or.inr ⟨nx t s3, t4.1, fun a m S σ h => ?_, fun c0 B b σ hb h => ?_⟩
      · obtain ⟨τ, f1, f2, f3, f4⟩ := mh a m S σ h
        obtain ⟨υ, y1, y2, -, y4⟩ := zm238 (d := K + 14) (a := 999) w f2.1 t4.1 f2.2.1 (by decide)
        have y1 : zev (K + 20) 238 [.inr (.inr (0, 60)), .inl 999] τ = some (0, 0, υ) := y1
        have hb : mBd t (nx t s3) 0 υ := ⟨(y4 qa).1, (y4 qa).2, (y2.1 _ _ _ (by omega)).trans f2.2.2.1⟩
        rw [if_neg q2, y1] at f4
        exact ⟨_, f4.trans (r137x hb), zFr_tt (zFr_tt (zFr_mr f1) (zFr_i y2 fun _ _ _ q => by omega)) (zFr_w (by omega)), mBd_24 hb⟩
      · rw [if_neg q2] at h
        exact ⟨σ, cGx w t4 hb hn h (by decide) fun _ => t2x (by omega) qa, zFr_r σ⟩
    case pos =>
    have hs4 : nx t s3 < t.1 := aWe_s (by omega)
    have t5 := tS_nx t4.1
    have b5 : aTf t (nx t (nx t s3)) ≤ nx t (nx t (nx t s3)) := (aTs_l (aTf_l t5.1).2).1
    have n5 := nx_l t5.1
    obtain ⟨y1, y2⟩ := dEn (d := d) (n := n) (K := K) (dd := dd) (am := aWe t (nx t s3)) w hn t5
    have mi : ∀ (a : Int) m S σ, mOk t s3 m 0 S σ → ∃ τ, zFr Wmr σ τ ∧ mOk t (nx t (nx t s3)) m 0 S τ ∧ τ.1 0 60 21 = iI (aWe t (nx t s3)) ∧ r104 K (iI a) (iI dd) 1 σ = r137 K (iI a) (iI dd) τ := fun a m S σ h => by
      obtain ⟨τ, f1, f2, f3, f4⟩ := mh a m S σ h
      obtain ⟨υ, y1, y2, y3, -⟩ := zm238 (d := K + 14) (a := 999) w f2.1 t4.1 f2.2.1 (by decide)
      have y1 : zev (K + 20) 238 [.inr (.inr (0, 60)), .inl 999] τ = some (0, 0, υ) := y1
      obtain ⟨x1, x2, x3⟩ := y3 qa
      rw [if_neg q2, y1] at f4
      exact ⟨υ, zFr_tt (zFr_mr f1) (zFr_i y2 fun _ _ _ q => by omega), ⟨x1, x2, mMm_n f2.2.2 y2⟩, x3, f4⟩
    have ci : ∀ c0 B b σ, b ≤ nx t s3 → cAt t 2 n c0 0 B [] σ → ∃ τ, cLp d (iI (b : Nat)) (iI (nx t s3 : Nat)) σ = cLp d (iI (aTf t (nx t s3) : Nat)) (iI (nx t (nx t s3) : Nat)) τ ∧ zFr (fun g k i => (g = 4 ∧ k = 10 ∧ i = n) ∨ (g = 0 ∧ k = 33)) σ τ ∧ cAt t 3 n c0 0 B [] τ ∧ τ.1 4 10 n = iI (aWe t (nx t s3)) := fun c0 B b σ hb h => by
      obtain ⟨τ, e1, e2, e3, e4⟩ := t2a (d := d) h qa hn
      refine ⟨τ, ?_, e2, e3, e4⟩
      rw [aWe_d hs4] at e1
      rw [cLp_t h.1 w hs4 (t4.2 hs4) hb h.2.2.1 hn e1 (zFr_i e2 fun _ _ _ q => by omega)]
      rw [← aTf_e hs4]
      rfl
    by_cases q : aWe t (nx t (nx t s3)) = -14
    · obtain ⟨z1, z2⟩ := y1 q
      refine Or.inl ⟨nx t (nx t (nx t s3)), aWe t (nx t s3), n5.2, tS_nx t5.1, by omega, qa.1, qa.2, fun a m S σ h hS => ?_, fun c0 B b σ hb h => ?_⟩
      · obtain ⟨τ, f1, f2, f3, f4⟩ := mi a m S σ h
        obtain ⟨υ, x1, x2, x3⟩ := z1 a m S τ f2 hS f3
        exact ⟨υ, f4.trans x1, zFr_tt f1 x2, x3⟩
      · rw [if_neg q2] at h
        obtain ⟨τ, e1, e2, e3, e4⟩ := ci c0 B b σ hb h
        obtain ⟨υ, x1, x2, x3, x4⟩ := z2 c0 B _ τ b4 e3
        exact ⟨_, υ, b5, e1.trans x1, zFr_tt (zFr_i e2 fun _ _ _ q => by omega) (zFr_i x2 fun _ _ _ q => by omega), x3, fun _ => (x2.1 _ _ _ (by omega)).trans e4, x4⟩
    · obtain ⟨z1, z2⟩ := y2 q
      refine Or.inr ⟨nx t (nx t s3), t5.1, fun a m S σ h => ?_, fun c0 B b σ hb h => ?_⟩
      · obtain ⟨τ, f1, f2, f3, f4⟩ := mi a m S σ h
        obtain ⟨υ, x1, x2, x3⟩ := z1 a m S τ f2
        exact ⟨υ, f4.trans x1, zFr_tt f1 x2, x3⟩
      · rw [if_neg q2] at h
        obtain ⟨τ, e1, e2, e3, e4⟩ := ci c0 B b σ hb h
        exact ⟨τ, e1.trans (z2 c0 B _ τ b4 e3), zFr_i e2 fun _ _ _ q => by omega⟩
theorem aPut_n : ∀ (A : List Int) (S : zS) (m i : Nat), i < 120 + m → aPut S m A i = S i
  | [], _, _, _, _ => rfl
  | a :: A, S, m, i, h => by
    show aPut (zup S (120 + m) a) (m + 1) A i = S i
    rw [aPut_n A _ (m + 1) i (by omega), zup_n (by omega)]
theorem aPut_g : ∀ (A : List Int) (S : zS) (m i : Nat), i < A.length → aPut S m A (120 + (m + i)) = A.getD i 0
  | [], _, _, _, h => absurd h (Nat.not_lt_zero _)
  | a :: A, S, m, 0, h => by
    show aPut (zup S (120 + m) a) (m + 1) A (120 + (m + 0)) = a
    rw [aPut_n A _ (m + 1) _ (by omega)]
    exact zup_s
  | a :: A, S, m, i + 1, h => by
    have h : i + 1 < A.length + 1 := h
    show aPut (zup S (120 + m) a) (m + 1) A (120 + (m + (i + 1))) = A.getD i 0
    rw [show m + (i + 1) = m + 1 + i by omega, aPut_g A _ (m + 1) i (by omega)]
def eqC (B A : List Int) : Prop := ∀ f : Nat → Int32, (zmL f A []).map zmE = some (zcE (zcL f B []))
theorem eqC_0 : eqC [] [] := fun _ => rfl
theorem eqC_v {H : Nat} {B A : List Int} (h : eqv H B A) (hH : H ≤ 16) : eqC B A := fun f => by
  obtain ⟨b, e1, e2⟩ := h f [] (by show 0 + H ≤ 16; omega)
  rw [e1, e2]
  cases b <;> decide
abbrev Wrr (n c0 : Nat) : Nat → Nat → Nat → Prop := fun g k i => (g = 4 ∧ ((k = 12 ∧ c0 ≤ i) ∨ ((k = 8 ∨ k = 9 ∨ k = 10 ∨ k = 11) ∧ i = n) ∨ (k = 7 ∧ i = 0))) ∨ (g = 0 ∧ (k = 33 ∨ k = 34))
def rGo (t : zXt) (d n K s s2 : Nat) (kd dd am : Int) (B A : List Int) : Prop := (∀ m S σ, mOk t s m 0 S σ → S 1 = n → m ≤ s → ∃ τ, zev (K + 21) 247 [.inr (.inr (0, 60))] σ = some (0, 0, τ) ∧ zFr Wmr σ τ ∧ mOk t s2 (m + A.length) 0 (aRu (aPut S m A) n kd dd am (m + A.length)) τ ∧ m + A.length ≤ s2) ∧ (∀ c0 b σ, b ≤ s → cAt t 0 n c0 0 [] [] σ → c0 ≤ s → ∃ b2 τ, b2 ≤ s2 ∧ cLp d (iI (b : Nat)) (iI (s : Nat)) σ = cLp d (iI (b2 : Nat)) (iI (s2 : Nat)) τ ∧ zFr (Wrr n c0) σ τ ∧ cAt t 0 (n + 1) (c0 + B.length) 0 [] [] τ ∧ τ.1 4 8 n = iI kd ∧ τ.1 4 9 n = iI (cD dd) ∧ (dd < 2 → τ.1 4 10 n = iI am) ∧ τ.1 4 11 n = iI (c0 + B.length : Nat) ∧ (∀ i, i < B.length → τ.1 4 12 (c0 + i) = iI (B.getD i 0)) ∧ c0 + B.length ≤ s2)
def rNo (t : zXt) (d n K s s2 : Nat) : Prop := (∀ m S σ, mOk t s m 0 S σ → S 1 = n → m ≤ s → ∃ τ, zev (K + 21) 247 [.inr (.inr (0, 60))] σ = some (0, 0, τ) ∧ zFr Wmr σ τ ∧ mBd t s2 0 τ) ∧ (∀ c0 b σ, b ≤ s → cAt t 0 n c0 0 [] [] σ → c0 ≤ s → ∃ τ, cLp d (iI (b : Nat)) (iI (s : Nat)) σ = some (iI (s2 : Nat), 0, τ) ∧ zFr Wrd σ τ)
def rOu (t : zXt) (d n K s : Nat) : Prop := (∃ s2 kd dd am B A, n < 8 ∧ s2 ≤ t.1 ∧ tS t s2 ∧ s < s2 ∧ 0 ≤ kd ∧ kd ≤ 5 ∧ 0 ≤ dd ∧ dd ≤ 2 ∧ 0 ≤ am ∧ am ≤ 999 ∧ eqC B A ∧ A.length + s ≤ s2 ∧ B.length + s ≤ s2 ∧ rGo t d n K s s2 kd dd am B A) ∨ (∃ s2, s2 ≤ t.1 ∧ rNo t d n K s s2)
theorem rule_d {t : zXt} {d n K s s3 u : Nat} {kd : Int} {B A : List Int} (w : wT t) (hn : n < 8) (ht3 : tS t s3) (hss : s ≤ s3) (hkd : 0 ≤ kd ∧ kd ≤ 5) (hE : eqC B A) (hA : A.length + s ≤ s3) (hB : B.length + s ≤ s3) (hu : (u = 1 ∧ aWe t s3 ≠ -15) ∨ (u = 7 ∧ nQ t (-11) s3))
  (hm : ∀ m S σ, mOk t s m 0 S σ → S 1 = n → m ≤ s → ∃ τ, zev (K + 21) 247 [.inr (.inr (0, 60))] σ = r49 K (iI kd) τ ∧ zFr Wmp σ τ ∧ mOk t s3 (m + A.length) 0 (aPut S m A) τ ∧ m + A.length ≤ s3)
  (hc : ∀ c0 b σ, b ≤ s → cAt t 0 n c0 0 [] [] σ → c0 ≤ s → ∃ b3 τ L R, b3 ≤ s3 ∧ cLp d (iI (b : Nat)) (iI (s : Nat)) σ = cLp d (iI (b3 : Nat)) (iI (s3 : Nat)) τ ∧ zFr (Wrr n c0) σ τ ∧ cAt t u n c0 0 L R τ ∧ dW (-11) R = [] ∧ L ++ pW (-11) R = B ∧ rR R ∧ c0 + L.length + R.length ≤ s3 ∧ τ.1 4 8 n = iI kd) : rOu t d n K s := by
  have hl := w.1
  have r3 := aWe_r (t := t) (s := s3)
  have h31 := ht3.1
  have S1 : ∀ (S : zS) m, (aPut S m A) 1 = S 1 := fun S m => aPut_n A S m 1 (by omega)
  by_cases qd : aWe t s3 = -16 ∨ aWe t s3 = -17 ∨ aWe t s3 = -18
  case neg =>
    refine Or.inr ⟨s3, h31, fun m S σ h hS hm1 => ?_, fun c0 b σ hb h hc0 => ?_⟩
    · obtain ⟨τ, f1, f2, f3, f4⟩ := hm m S σ h hS hm1
      obtain ⟨υ, y1, y2, y3⟩ := r104f (K := K) (a := iI kd) f3
      refine ⟨υ, ?_, zFr_tt (zFr_mr f2) (zFr_mr y2), y3⟩
      rw [f1, r49_o w h31 f3, if_neg qd, y1]
    · obtain ⟨b3, τ, L, R, e1, e2, e3, e4, e5, e6, e7, e8, e9⟩ := hc c0 b σ hb h hc0
      refine ⟨τ, e2.trans ?_, zFr_i e3 fun _ _ _ q => by omega⟩
      rcases hu with ⟨u1, u2⟩ | ⟨u1, u2⟩
      · subst u1
        exact cGx w ht3 e1 hn e4 (by decide) fun _ => t1x (by omega) u2 qd
      · subst u1
        exact cGx w ht3 e1 hn e4 (by decide) fun _ => t7x (by omega) (u2 (-10) (by decide) (by decide)) (u2 (-11) (by decide) (by decide)) (fun _ => rfl) (fun z => absurd z qd) (by decide)
  case pos =>
  have hs3 : s3 < t.1 := aWe_s (by omega)
  have x3 := nx_g hs3
  have b3' : aTf t s3 ≤ nx t s3 := (aTs_l (aTf_l h31).2).1
  have ci : ∀ c0 b σ, b ≤ s → cAt t 0 n c0 0 [] [] σ → c0 ≤ s → ∃ τ, cLp d (iI (b : Nat)) (iI (s : Nat)) σ = cLp d (iI (aTf t s3 : Nat)) (iI (nx t s3 : Nat)) τ ∧ zFr (Wrr n c0) σ τ ∧ cAt t (if -16 - aWe t s3 = 2 then 3 else 2) n c0 0 B [] τ ∧ τ.1 4 8 n = iI kd ∧ τ.1 4 9 n = iI (aWe t s3) ∧ c0 + B.length ≤ s3 := fun c0 b σ hb h hc0 => by
    obtain ⟨b3, τ, L, R, e1, e2, e3, e4, e5, e6, e7, e8, e9⟩ := hc c0 b σ hb h hc0
    have pl := pW_l (j := -11) R
    have le := congrArg List.length e6
    rw [List.length_append] at le
    rw [e5, List.length_nil] at pl
    have tk : ∃ υ, zev (d + 8) 49 [.inr (.inr (0, 33)), .inl (iI (aWe t s3))] τ = some (1, 0, υ) ∧ zFr (Wdd c0) τ υ ∧ cAt t (if aWe t s3 = -18 then 3 else 2) n c0 0 (L ++ pW (-11) R) (dW (-11) R) υ ∧ υ.1 4 9 n = iI (aWe t s3) ∧ ∀ i, i ≠ n → υ.1 4 9 i = τ.1 4 9 i := by
      rcases hu with ⟨u1, -⟩ | ⟨u1, -⟩
      · subst u1
        exact t1d e4 qd hn e7 (by omega)
      · subst u1
        exact t7d e4 qd hn e7 (by omega)
    obtain ⟨υ, y1, y2, y3, y4, y5⟩ := tk
    rw [e5, e6] at y3
    have fr : zFr (Wrr n c0) τ υ := ⟨fun g k i q => by
      by_cases z : g = 4 ∧ k = 9
      · rw [z.1, z.2]
        exact y5 i (by omega)
      · exact y2.1 g k i (by omega), y2.2⟩
    refine ⟨υ, e2.trans ?_, zFr_tt e3 fr, ?_, (y2.1 _ _ _ (by omega)).trans e9, y4, by omega⟩
    · rw [aWe_d hs3] at y1
      rw [cLp_t e4.1 w hs3 (ht3.2 hs3) e1 e4.2.2.1 hn y1 (zFr_i fr fun _ _ _ q => by omega), ← aTf_e hs3]
      rfl
    · by_cases z : aWe t s3 = -18
      · rw [if_pos z] at y3
        rw [if_pos (by omega)]
        exact y3
      · rw [if_neg z] at y3
        rw [if_neg (by omega)]
        exact y3
  have mi : ∀ m S σ, mOk t s m 0 S σ → S 1 = n → m ≤ s → ∃ τ, zev (K + 21) 247 [.inr (.inr (0, 60))] σ = r104 K (iI kd) (iI (-16 - aWe t s3)) 1 τ ∧ zFr Wmp σ τ ∧ mOk t s3 (m + A.length) 0 (aPut S m A) τ ∧ m + A.length ≤ s3 := fun m S σ h hS hm1 => by
    obtain ⟨τ, f1, f2, f3, f4⟩ := hm m S σ h hS hm1
    exact ⟨τ, by rw [f1, r49_o w h31 f3, if_pos qd], f2, f3, f4⟩
  rcases dOu_i (d := d) (n := n) (K := K) (dd := -16 - aWe t s3) w hn hs3 (by omega) with ⟨s6, am, o1, o2, o3, o4, o5, o6, o7⟩ | ⟨s6, o1, o6, o7⟩
  · refine Or.inl ⟨s6, kd, -16 - aWe t s3, am, B, A, hn, o1, o2, by omega, hkd.1, hkd.2, by omega, by omega, o4, o5, hE, by omega, by omega, fun m S σ h hS hm1 => ?_, fun c0 b σ hb h hc0 => ?_⟩
    · obtain ⟨τ, f1, f2, f3, f4⟩ := mi m S σ h hS hm1
      obtain ⟨υ, y1, y2, y3⟩ := o6 kd _ _ τ f3 ((S1 S m).trans hS)
      exact ⟨υ, f1.trans y1, zFr_tt (zFr_mr f2) y2, y3, by omega⟩
    · obtain ⟨τ, e1, e2, e3, e4, e5, e6⟩ := ci c0 b σ hb h hc0
      obtain ⟨b2, υ, y1, y2, y3, y4, y5, y6⟩ := o7 c0 B _ τ b3' e3
      have cc : cD (-16 - aWe t s3) = aWe t s3 := by unfold cD; omega
      exact ⟨b2, υ, y1, e1.trans y2, zFr_tt e2 (zFr_i y3 fun _ _ _ q => by omega), y4, (y3.1 _ _ _ (by omega)).trans e4, by rw [cc]; exact (y3.1 _ _ _ (by omega)).trans e5, y5, y6, fun i hi => (y3.1 _ _ _ (by omega)).trans (e3.2.2.2.2.2.1 i hi), by omega⟩
  · refine Or.inr ⟨s6, o1, fun m S σ h hS hm1 => ?_, fun c0 b σ hb h hc0 => ?_⟩
    · obtain ⟨τ, f1, f2, f3, f4⟩ := mi m S σ h hS hm1
      obtain ⟨υ, y1, y2, y3⟩ := o6 kd _ _ τ f3
      exact ⟨υ, f1.trans y1, zFr_tt (zFr_mr f2) y2, y3⟩
    · obtain ⟨τ, e1, e2, e3, e4, e5, e6⟩ := ci c0 b σ hb h hc0
      obtain ⟨υ, y1, y2⟩ := o7 c0 B _ τ b3' e3
      exact ⟨υ, e1.trans y1, zFr_tt (zFr_i e2 fun _ _ _ q => by omega) (zFr_i y2 fun _ _ _ q => by omega)⟩
theorem aWe_len {t : zXt} {s g : Nat} (w : wT t) (hs : s ≤ t.1) (hg : g < 18) (q : aWe t s = zCd.getD g 0) : s + (zSL.getD g []).length ≤ nx t s := by
  have e := aWe_k (g := g) w hs hg
  rw [aHs_is w hs hg] at e
  obtain ⟨h1, h2, h3⟩ : s < t.1 ∧ aLt (t.2 s) = true ∧ aIs t s g = true := by rw [e]; exact q
  unfold aIs at h3
  rw [Bool.and_eq_true] at h3
  have h4 : aTe t s - s = (zSL.getD g []).length := of_decide_eq_true h3.1
  have h5 := aTe_l h1
  have h6 := aTs_l (t := t) (p := aTf t s) (by rw [aTf_e h1]; exact h5.2)
  rw [aTf_e h1] at h6
  unfold nx
  rw [aTf_e h1]
  omega
theorem zSL_k : ∀ g, g < 6 → 3 ≤ (zSL.getD g []).length ∧ zCd.getD g 0 = -20 - (g : Int) := by decide +kernel
theorem zSL_if : (zSL.getD 9 []).length = 2 := by decide +kernel
theorem rOu_i {t : zXt} {d n K s : Nat} (w : wT t) (hn8 : n ≤ 8) (ht : tS t s) (hs : s < t.1) : rOu t d n K s := by
  have hl := w.1
  have r0 := aWe_r (t := t) (s := s)
  have e8 : (iI (n : Int) < 8) = ((n : Int) < 8) := iI_lt (b := 8) (by omega) (by decide)
  have m0 : ∀ m S σ, mOk t s m 0 S σ → S 1 = n → zev (K + 21) 247 [.inr (.inr (0, 60))] σ = if -25 ≤ aWe t s ∧ aWe t s ≤ -20 ∧ n < 8 then r26 K (iI (-20 - aWe t s)) 1 σ else r26 K (iI (if -25 ≤ aWe t s ∧ aWe t s ≤ -20 then -20 - aWe t s else -1)) 0 σ := fun m S σ h hS => by
    have lt0 : (iI (if -25 ≤ aWe t s ∧ aWe t s ≤ -20 then -20 - aWe t s else -1) < 0) = ((if -25 ≤ aWe t s ∧ aWe t s ≤ -20 then -20 - aWe t s else -1) < 0) := iI_lt0 (by split <;> omega)
    have h1 : σ.1 0 61 1 = iI n := by rw [h.2.2.2.2 1 (by decide), hS]
    rw [r247_e, zm239 (d := K + 15) w h.1 ht.1 h.2.1]
    simp only [zbs, lt0, h1, e8]
    by_cases q : -25 ≤ aWe t s ∧ aWe t s ≤ -20
    · rw [if_pos q, if_neg (by omega)]
      by_cases q8 : n < 8
      · rw [if_pos (by omega), if_pos ⟨q.1, q.2, q8⟩]
      · rw [if_neg (by omega), if_neg (fun z => q8 z.2.2)]
    · rw [if_neg q, if_pos (by decide), if_neg (fun z => q ⟨z.1, z.2.1⟩)]
  by_cases qk : -25 ≤ aWe t s ∧ aWe t s ≤ -20 ∧ n < 8
  case neg =>
    refine Or.inr ⟨s, ht.1, fun m S σ h hS hm1 => ?_, fun c0 b σ hb h hc0 => ⟨σ, ?_, zFr_r σ⟩⟩
    · obtain ⟨τ, e1, e2, e3⟩ := r26f (K := K) (a := iI (if -25 ≤ aWe t s ∧ aWe t s ≤ -20 then -20 - aWe t s else -1)) w ht.1 h
      refine ⟨τ, ?_, zFr_mr e2, e3⟩
      rw [m0 m S σ h hS, if_neg qk, e1]
    · by_cases q8 : n < 8
      · exact cGn w ht hs hb q8 h (t0x (by omega) (fun z => qk ⟨z.1, z.2, q8⟩) r0)
      · exact cLp_9 h.1 w hs (ht.2 hs) hb h.2.2.1 q8 hn8
  case pos =>
  have hn : n < 8 := qk.2.2
  have x1 := nx_g hs
  have n1 := nx_l ht.1
  have t1 := tS_nx ht.1
  have b1 : aTf t s ≤ nx t s := (aTs_l (aTf_l ht.1).2).1
  have r1 := aWe_r (t := t) (s := nx t s)
  have l1 : s + 3 ≤ nx t s := by
    obtain ⟨g, hg⟩ := zint (show 0 ≤ -20 - aWe t s by omega)
    have hk := zSL_k g (by omega)
    have := aWe_len (g := g) w ht.1 (by omega) (by rw [hk.2]; omega)
    omega
  have mh : ∀ m S σ, mOk t s m 0 S σ → S 1 = n → ∃ τ, zFr Wmp σ τ ∧ mOk t (nx t s) m 0 S τ ∧ zev (K + 21) 247 [.inr (.inr (0, 60))] σ = if aWe t (nx t s) = -15 then ((zev (K + 20) 236 [.inr (.inr (0, 60)), .inl 1] τ).bind fun x2 => (zev (K + 20) 246 [.inr (.inr (0, 60))] x2.2.2).bind fun x3 => r49 K (iI (-20 - aWe t s)) x3.2.2) else r49 K (iI (-20 - aWe t s)) τ := fun m S σ h hS => by
    obtain ⟨τ, f1, f2, f3, f4⟩ := zm236t (d := K + 15) w h.1 (aTf_l ht.1).2 h.2.1
    have ok : mOk t (nx t s) m 0 S τ := ⟨f3, f4, mMm_f h.2.2 f2⟩
    have k9 : (lg_cmp (aHs t (nx t s)) 294 = 0) = (aWe t (nx t s) = -15) := aWe_k (g := 9) w t1.1 (by decide)
    refine ⟨τ, zFr_i f2 fun _ _ _ q => by omega, ok, ?_⟩
    rw [m0 m S σ h hS, if_pos qk, r26_e, f1]
    simp only [zbs, zm237 (d := K + 16) w ok.1 t1.1 ok.2.1, cond_false, k9]
  have ch : ∀ c0 b σ, b ≤ s → cAt t 0 n c0 0 [] [] σ → ∃ τ, cLp d (iI (b : Nat)) (iI (s : Nat)) σ = cLp d (iI (aTf t s : Nat)) (iI (nx t s : Nat)) τ ∧ zFr (Wrr n c0) σ τ ∧ cAt t 1 n c0 0 [] [] τ ∧ τ.1 4 8 n = iI (-20 - aWe t s) := fun c0 b σ hb h => by
    obtain ⟨τ, e1, e2, e3, e4⟩ := t0k (d := d) h ⟨qk.1, qk.2.1⟩ hn
    refine ⟨τ, ?_, zFr_i e2 fun _ _ _ q => by omega, e3, e4⟩
    rw [aWe_d hs] at e1
    rw [cLp_t h.1 w hs (ht.2 hs) hb h.2.2.1 hn e1 (zFr_i e2 fun _ _ _ q => by omega), ← aTf_e hs]
    rfl
  by_cases q15 : aWe t (nx t s) = -15
  case neg =>
    refine rule_d (s3 := nx t s) (u := 1) (B := []) (A := []) (kd := -20 - aWe t s) w hn t1 (by omega) (by omega) eqC_0 (by rw [List.length_nil]; omega) (by rw [List.length_nil]; omega) (Or.inl ⟨rfl, q15⟩) (fun m S σ h hS hm1 => ?_) (fun c0 b σ hb h hc0 => ?_)
    · obtain ⟨τ, f1, f2, f3⟩ := mh m S σ h hS
      rw [if_neg q15] at f3
      exact ⟨τ, f3, f1, f2, by show m + 0 ≤ _; omega⟩
    · obtain ⟨τ, e1, e2, e3, e4⟩ := ch c0 b σ hb h
      exact ⟨_, τ, [], [], b1, e1, e2, e3, rfl, rfl, fun u hu => absurd hu (List.not_mem_nil), by show c0 + 0 + 0 ≤ _; omega, e4⟩
  case pos =>
  have hs1 : nx t s < t.1 := aWe_s (by omega)
  have t2 := tS_nx t1.1
  have n2 := nx_l t1.1
  have b2 : aTf t (nx t s) ≤ nx t (nx t s) := (aTs_l (aTf_l t1.1).2).1
  have l2 : nx t s + 2 ≤ nx t (nx t s) := by
    have := aWe_len (g := 9) w t1.1 (by decide) q15
    rw [zSL_if] at this
    exact this
  have mi : ∀ m S σ, mOk t s m 0 S σ → S 1 = n → ∃ τ, zFr Wmp σ τ ∧ mOk t (nx t (nx t s)) m 0 S τ ∧ zev (K + 21) 247 [.inr (.inr (0, 60))] σ = (zev (K + 20) 246 [.inr (.inr (0, 60))] τ).bind fun x3 => r49 K (iI (-20 - aWe t s)) x3.2.2 := fun m S σ h hS => by
    obtain ⟨τ, f1, f2, f3⟩ := mh m S σ h hS
    obtain ⟨υ, y1, y2, y3, y4⟩ := zm236t (d := K + 15) w f2.1 (aTf_l t1.1).2 f2.2.1
    refine ⟨υ, zFr_tt f1 (zFr_i y2 fun _ _ _ q => by omega), ⟨y3, y4, mMm_f f2.2.2 y2⟩, ?_⟩
    rw [f3, if_pos q15, y1]
    rfl
  have ci : ∀ c0 b σ, b ≤ s → cAt t 0 n c0 0 [] [] σ → ∃ τ, cLp d (iI (b : Nat)) (iI (s : Nat)) σ = cLp d (iI (aTf t (nx t s) : Nat)) (iI (nx t (nx t s) : Nat)) τ ∧ zFr (Wrr n c0) σ τ ∧ cAt t 4 n c0 0 [] [] τ ∧ τ.1 4 8 n = iI (-20 - aWe t s) := fun c0 b σ hb h => by
    obtain ⟨τ, e1, e2, e3, e4⟩ := ch c0 b σ hb h
    have tk := t1i (t := t) (d := d) (n := n) (c0 := c0) (o := 0) (L := []) (R := [])
    rw [← q15] at tk
    obtain ⟨υ, y1, y2, y3⟩ := cGo w t1 hs1 b1 hn e3 tk
    exact ⟨υ, e1.trans y1, zFr_tt e2 (zFr_i y2 fun _ _ _ q => by omega), y3, (y2.1 _ _ _ (by omega)).trans e4⟩
  rcases zOu_c (d := d) (n := n) (K := K) w hn 3 0 rfl (nx t (nx t s)) t2 with ⟨s3, B, A, o1, o2, o3, o8, o4, o7, o5, o6⟩ | ⟨s3, o1, o5, o6⟩
  · refine rule_d (s3 := s3) (u := 7) (B := B) (A := A) (kd := -20 - aWe t s) w hn o2 (by omega) (by omega) (eqC_v o4 (by decide)) (by omega) (by omega) (Or.inr ⟨rfl, o7⟩) (fun m S σ h hS hm1 => ?_) (fun c0 b σ hb h hc0 => ?_)
    · obtain ⟨τ, f1, f2, f3⟩ := mi m S σ h hS
      obtain ⟨υ, y1, y2, y3⟩ := o5 m S τ f2 (by omega)
      have y1 : zev (K + 20) 246 [.inr (.inr (0, 60))] τ = some (0, 0, υ) := y1
      rw [y1] at f3
      exact ⟨υ, f3, zFr_tt f1 y2, y3, by omega⟩
    · obtain ⟨τ, e1, e2, e3, e4⟩ := ci c0 b σ hb h
      obtain ⟨b3, υ, L2, R2, y1, y2, y3, y4, y5, y6, y7, y8⟩ := o6 c0 [] [] _ τ b2 e3 trivial (fun u hu => absurd hu (List.not_mem_nil)) (by show c0 + 0 + 0 + 4 ≤ _; omega)
      exact ⟨b3, υ, L2, R2, y1, e1.trans y2, zFr_tt e2 (zFr_i y3 fun _ _ _ q => by omega), y4, y5, y6, y7, by omega, (y3.1 _ _ _ (by omega)).trans e4⟩
  · refine Or.inr ⟨s3, o1, fun m S σ h hS hm1 => ?_, fun c0 b σ hb h hc0 => ?_⟩
    · obtain ⟨τ, f1, f2, f3⟩ := mi m S σ h hS
      obtain ⟨υ, y1, y2, y3⟩ := o5 m S τ f2 (by omega)
      have y1 : zev (K + 20) 246 [.inr (.inr (0, 60))] τ = some (0, 0, υ) := y1
      obtain ⟨φ, z1, z2, z3⟩ := r49x (K := K) (a := iI (-20 - aWe t s)) w o1 y3
      rw [y1] at f3
      exact ⟨φ, f3.trans z1, zFr_mr (zFr_tt (zFr_tt f1 y2) z2), z3⟩
    · obtain ⟨τ, e1, e2, e3, e4⟩ := ci c0 b σ hb h
      obtain ⟨υ, y1, y2⟩ := o6 c0 [] [] _ τ b2 e3 trivial (fun u hu => absurd hu (List.not_mem_nil)) (by show c0 + 0 + 0 + 4 ≤ _; omega)
      exact ⟨υ, e1.trans y1, zFr_tt (zFr_i e2 fun _ _ _ q => by omega) (zFr_i y2 fun _ _ _ q => by omega)⟩
