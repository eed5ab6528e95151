theorem zmR_c {f c c2 : Nat → Int32} : ∀ (n k : Nat) (st : List Int32), (∀ i, k ≤ i → i < k + n → c i = c2 i) → zmR f c n k st = zmR f c2 n k st
  | 0, _, _, _ => rfl
  | n + 1, k, st, h => by
    show (zmS f (c k) st).bind (zmR f c n (k + 1)) = (zmS f (c2 k) st).bind (zmR f c2 n (k + 1))
    rw [h k (Nat.le_refl _) (by omega)]
    congr 1
    funext st2
    exact zmR_c n (k + 1) st2 (fun i hi hi2 => h i (by omega) (by omega))
theorem zmC_c {f c c2 : Nat → Int32} {k n : Nat} (h : ∀ i, k ≤ i → i < k + n → c i = c2 i) : zmC f c k n = zmC f c2 k n := by
  unfold zmC
  rw [zmR_c n k [] h]
theorem aEnd_m {S : zS} (u : wU S) : ∀ (j k : Nat), k + j ≤ (S 1).toNat → aEnd S k ≤ aEnd S (k + j)
  | 0, _, _ => Nat.le_refl _
  | j + 1, k, h => by
    have h1 := aEnd_m u j k (by omega)
    have h2 := (u.2.2 (k + j) (by omega)).2.2.2.2.2.2.1
    exact Nat.le_trans h1 h2
theorem cEn_m {g : Nat} {S : zS} {σ : zM} (h : cU g S σ) : ∀ (j k : Nat), k + j ≤ (S 1).toNat → cEn (σ.1 g 11) k ≤ cEn (σ.1 g 11) (k + j)
  | 0, _, _ => Nat.le_refl _
  | j + 1, k, hk => by
    have h1 := cEn_m h j k (by omega)
    have h2 := (h.2 (k + j) (by omega)).2.2.2.2.1
    exact Nat.le_trans h1 h2
theorem cEn_e {e e2 : Nat → Int32} {n : Nat} (h : ∀ i, i < n → e i = e2 i) : ∀ j, j ≤ n → cEn e j = cEn e2 j
  | 0, _ => rfl
  | j + 1, hj => by
    show (e j).toNatClampNeg = (e2 j).toNatClampNeg
    rw [h j (by omega)]
theorem aRu_n {S : zS} {n m i : Nat} {a dd am : Int} (h1 : i ≠ 1) (h2 : i < 88 + 4 * n ∨ 92 + 4 * n ≤ i) : aRu S n a dd am m i = S i := by
  unfold aRu
  rw [zup_n h1, zup_n (by omega), zup_n (by omega), zup_n (by omega), zup_n (by omega)]
theorem aRu_s {S : zS} {n m : Nat} {a dd am : Int} : aRu S n a dd am m 1 = ((n + 1 : Nat) : Int) ∧ aRu S n a dd am m (88 + 4 * n) = a ∧ aRu S n a dd am m (89 + 4 * n) = dd ∧ aRu S n a dd am m (90 + 4 * n) = am ∧ aRu S n a dd am m (91 + 4 * n) = m := by
  unfold aRu
  refine ⟨zup_s, ?_, ?_, ?_, ?_⟩
  · rw [zup_n (by omega), zup_n (by omega), zup_n (by omega), zup_n (by omega), zup_s]
  · rw [zup_n (by omega), zup_n (by omega), zup_n (by omega), zup_s]
  · rw [zup_n (by omega), zup_n (by omega), zup_s]
  · rw [zup_n (by omega), zup_s]
theorem ru_old {S : zS} {n m : Nat} {kd dd am : Int} {A : List Int} (u : wU S) (hS : S 1 = n) (hn : n < 8) (hm : aEnd S n = m) : (∀ i, i ≠ 1 → i < 88 + 4 * n → aRu (aPut S m A) n kd dd am (m + A.length) i = S i) ∧ (∀ k, k ≤ n → aEnd (aRu (aPut S m A) n kd dd am (m + A.length)) k = aEnd S k) ∧ (∀ f k, k < n → zmC f (aCod (aRu (aPut S m A) n kd dd am (m + A.length))) (aEnd S k) (aEnd S (k + 1) - aEnd S k) = zmC f (aCod S) (aEnd S k) (aEnd S (k + 1) - aEnd S k)) := by
  have h1 : ∀ i, i ≠ 1 → i < 88 + 4 * n → aRu (aPut S m A) n kd dd am (m + A.length) i = S i := fun i a b => by
    rw [aRu_n a (Or.inl b), aPut_n A S m i (by omega)]
  refine ⟨h1, fun k hk => ?_, fun f k hk => zmC_c fun i a b => ?_⟩
  · cases k with
    | zero => rfl
    | succ k =>
      show (aRu (aPut S m A) n kd dd am (m + A.length) (91 + 4 * k)).toNat = (S (91 + 4 * k)).toNat
      rw [h1 (91 + 4 * k) (by omega) (by omega)]
  · have e1 := aEnd_m u (n - (k + 1)) (k + 1) (by omega)
    rw [show k + 1 + (n - (k + 1)) = n by omega, hm] at e1
    have e2 := (u.2.2 k (by omega)).2.2.2.2.2.2.1
    show iI (aRu (aPut S m A) n kd dd am (m + A.length) (120 + i)) = iI (S (120 + i))
    rw [aRu_n (by omega) (Or.inr (by omega)), aPut_n A S m (120 + i) (by omega)]
theorem ru_new {S : zS} {n m : Nat} {kd dd am : Int} {A : List Int} (f : Nat → Int32) (hn : n < 8) : zmC f (aCod (aRu (aPut S m A) n kd dd am (m + A.length))) m A.length = (zmL f A []).map zmE := by
  unfold zmC
  rw [zmR_L A m [] fun i hi => ?_]
  show iI (aRu (aPut S m A) n kd dd am (m + A.length) (120 + (m + i))) = _
  rw [aRu_n (by omega) (Or.inr (by omega)), aPut_g A S m i hi]
theorem ru_w {S : zS} {n m : Nat} {kd dd am : Int} {B A : List Int} (u : wU S) (hS : S 1 = n) (hn : n < 8) (hm : aEnd S n = m) (hA : m + A.length ≤ 200) (hk : 0 ≤ kd ∧ kd ≤ 5) (hd : 0 ≤ dd ∧ dd ≤ 2) (ha : 0 ≤ am ∧ am ≤ 999) (hE : eqC B A) : wU (aRu (aPut S m A) n kd dd am (m + A.length)) := by
  obtain ⟨o1, o2, o3⟩ := ru_old (kd := kd) (dd := dd) (am := am) (A := A) u hS hn hm
  obtain ⟨s1, s2, s3, s4, s5⟩ := aRu_s (S := aPut S m A) (n := n) (m := m + A.length) (a := kd) (dd := dd) (am := am)
  refine ⟨by rw [s1]; omega, by rw [s1]; omega, fun k hk2 => ?_⟩
  rw [s1] at hk2
  by_cases q : k = n
  · subst q
    have e2 : aEnd (aRu (aPut S m A) k kd dd am (m + A.length)) (k + 1) = m + A.length := by
      show (aRu (aPut S m A) k kd dd am (m + A.length) (91 + 4 * k)).toNat = _
      rw [s5]; omega
    rw [s2, s3, s4, s5, o2 k (Nat.le_refl _), e2, hm]
    refine ⟨hk.1, hk.2, hd.1, hd.2, ha.1, ha.2, by omega, by omega, by omega, fun f => ?_⟩
    rw [show m + A.length - m = A.length by omega, ru_new f hn, hE f]
    exact fun z => by cases z
  · have uk := u.2.2 k (by omega)
    rw [o1 (88 + 4 * k) (by omega) (by omega), o1 (89 + 4 * k) (by omega) (by omega), o1 (90 + 4 * k) (by omega) (by omega), o1 (91 + 4 * k) (by omega) (by omega), o2 k (by omega), o2 (k + 1) (by omega)]
    refine ⟨uk.1, uk.2.1, uk.2.2.1, uk.2.2.2.1, uk.2.2.2.2.1, uk.2.2.2.2.2.1, uk.2.2.2.2.2.2.1, uk.2.2.2.2.2.2.2.1, uk.2.2.2.2.2.2.2.2.1, fun f => ?_⟩
    rw [o3 f k (by omega)]
    exact uk.2.2.2.2.2.2.2.2.2 f
theorem ru_c {t : zXt} {S : zS} {n m c0 : Nat} {kd dd am : Int} {B A : List Int} {σ τ : zM} (u : wU S) (hS : S 1 = n) (hn : n < 8) (hm : aEnd S n = m) (hB : c0 + B.length ≤ 200) (hE : eqC B A) (h : cU 4 S σ) (hc : cEn (σ.1 4 11) n = c0) (f : zFr (Wrr n c0) σ τ) (h7 : cAt t 0 (n + 1) (c0 + B.length) 0 [] [] τ) (h8 : τ.1 4 8 n = iI kd) (h9 : τ.1 4 9 n = iI (cD dd)) (h10 : dd < 2 → τ.1 4 10 n = iI am) (h11 : τ.1 4 11 n = iI (c0 + B.length : Nat)) (h12 : ∀ i, i < B.length → τ.1 4 12 (c0 + i) = iI (B.getD i 0)) : cU 4 (aRu (aPut S m A) n kd dd am (m + A.length)) τ ∧ cEn (τ.1 4 11) (n + 1) = c0 + B.length := by
  obtain ⟨o1, o2, o3⟩ := ru_old (kd := kd) (dd := dd) (am := am) (A := A) u hS hn hm
  obtain ⟨s1, s2, s3, s4, s5⟩ := aRu_s (S := aPut S m A) (n := n) (m := m + A.length) (a := kd) (dd := dd) (am := am)
  have en := cEn_e (e := τ.1 4 11) (e2 := σ.1 4 11) (n := n) (fun i hi => f.1 _ _ _ (by omega))
  have ee : cEn (τ.1 4 11) (n + 1) = c0 + B.length := by
    show (τ.1 4 11 n).toNatClampNeg = _
    rw [h11, iI_Nn (show c0 + B.length ≤ 2147483647 by omega)]
  refine ⟨⟨by rw [s1]; exact h7.2.2.1, fun k hk2 => ?_⟩, ee⟩
  rw [s1] at hk2
  by_cases q : k = n
  · subst q
    have e2 : aEnd (aRu (aPut S m A) k kd dd am (m + A.length)) (k + 1) = m + A.length := by
      show (aRu (aPut S m A) k kd dd am (m + A.length) (91 + 4 * k)).toNat = _
      rw [s5]; omega
    rw [s2, s3, s4, o2 k (Nat.le_refl _), e2, hm, ee, en k (Nat.le_refl _), hc]
    refine ⟨h8, h9, h10, h11, by omega, hB, fun g => ?_⟩
    rw [show m + A.length - m = A.length by omega, ru_new g hn, hE g, show c0 + B.length - c0 = B.length by omega]
    unfold zcC
    rw [zcR_L B c0 [] h12]
  · have hk := h.2 k (by omega)
    have em := cEn_m h (n - (k + 1)) (k + 1) (by omega)
    rw [show k + 1 + (n - (k + 1)) = n by omega, hc] at em
    rw [o1 (88 + 4 * k) (by omega) (by omega), o1 (89 + 4 * k) (by omega) (by omega), o1 (90 + 4 * k) (by omega) (by omega), o2 k (by omega), o2 (k + 1) (by omega), en k (by omega), en (k + 1) (by omega), f.1 4 8 k (by omega), f.1 4 9 k (by omega), f.1 4 10 k (by omega), f.1 4 11 k (by omega)]
    refine ⟨hk.1, hk.2.1, hk.2.2.1, hk.2.2.2.1, hk.2.2.2.2.1, hk.2.2.2.2.2.1, fun g => ?_⟩
    have h5 := hk.2.2.2.2.1
    rw [o3 g k (by omega), hk.2.2.2.2.2.2 g]
    unfold zcC
    rw [zcC_c (c := τ.1 4 12) (c' := σ.1 4 12) (fun i hi hi2 => f.1 _ _ _ (by omega))]
abbrev Wmt : Nat → Nat → Nat → Prop := fun g k i => g = 0 ∧ ((k = 60 ∧ 18 ≤ i ∧ i ≤ 24) ∨ k = 61)
noncomputable def mLp (K : Nat) (σ : zM) : zR := zrun (zev (K + 21)) zT_248 35 [some (.inr (.inr (0, 60)))] [] σ
def lOu (t : zXt) (d n K s m c0 : Nat) (S : zS) : Prop := (∃ S', wU S' ∧ (∀ i, i ≠ 1 → i < 88 → S' i = S i) ∧ (∀ σ, mOk t s m 0 S σ → ∃ τ, mLp K σ = some (iI (S' 1), 0, τ) ∧ zFr Wmt σ τ ∧ mS 61 S' τ ∧ τ.1 0 60 18 = 0) ∧ (∀ b σ, b ≤ s → cAt t 0 n c0 0 [] [] σ → cU 4 S σ → cEn (σ.1 4 11) n = c0 → ∃ τ, cLp d (iI (b : Nat)) (iI (s : Nat)) σ = some (-9, 0, τ) ∧ zFr Wrd σ τ ∧ cU 4 S' τ))
  ∨ (∃ s2, s2 ≤ t.1 ∧ (∀ S0 σ, mOk t s m 0 S σ → mS 63 S0 σ → ∃ τ, mLp K σ = some (iI (-100 - (s2 : Nat)), 0, τ) ∧ zFr Wmt σ τ ∧ mS 61 S0 τ ∧ τ.1 0 60 18 = 0) ∧ (∀ b σ, b ≤ s → cAt t 0 n c0 0 [] [] σ → ∃ τ, cLp d (iI (b : Nat)) (iI (s : Nat)) σ = some (iI (s2 : Nat), 0, τ) ∧ zFr Wrd σ τ))
theorem mLp_60x {t : zXt} {K s : Nat} {S0 : zS} {σ : zM} (h : mBd t s 0 σ) (h63 : mS 63 S0 σ) (hs : s ≤ 200) : ∃ τ, mLp K σ = some (iI (-100 - (s : Nat)), 0, τ) ∧ zFr Wmt σ τ ∧ mS 61 S0 τ ∧ τ.1 0 60 18 = 0 := by
  obtain ⟨τ, e1, e2, e3⟩ := zm154 (d := K + 20) (S := S0) (σ := zwI σ 0 60 18 0) (mS_f h63 (zfn (by omega)))
  have h19 : τ.1 0 60 19 = iI s := (e2.1 _ _ _ (by omega)).trans ((zfe (by omega)).trans h.1.2.1)
  refine ⟨τ, ?_, zFr_tt (zFr_w (by omega)) (zFr_i e2 fun _ _ _ q => by omega), e3, (e2.1 _ _ _ (by omega)).trans zfs⟩
  unfold mLp
  rw [ez_248_35, h.2.1, if_neg (by decide), ez_248_60, zfe (by omega), h.2.1, if_neg (by decide), e1]
  simp only [zbs, h19]
  rw [show (-100 : Int32) = iI (-100) by decide, iI_sub]
theorem lOu_i {t : zXt} {d K : Nat} (w : wT t) : ∀ (N n s m c0 : Nat) (S : zS), t.1 ≤ s + N → tS t s → wU S → S 1 = n → aEnd S n = m → m ≤ s → c0 ≤ s → lOu t d n K s m c0 S := by
  have hl := w.1
  have stop : ∀ (n s m c0 : Nat) (S : zS), ¬ s < t.1 → tS t s → wU S → S 1 = n → lOu t d n K s m c0 S := fun n s m c0 S q ht u hS => by
    have es : s = t.1 := by have := ht.1; omega
    refine Or.inl ⟨S, u, fun _ _ _ => rfl, fun σ h => ?_, fun b σ hb h hU hc => ⟨σ, ?_, zFr_r σ, hU⟩⟩
    · refine ⟨zwI σ 0 60 18 0, ?_, zFr_w (by omega), mS_f h.2.2.2.2 (zfn (by omega)), zfs⟩
      unfold mLp
      rw [ez_248_35, h.2.1, if_pos (by decide), h.1.2.1, h.1.1.1, if_neg (by rw [iI_lt (by omega) (by omega)]; omega), ez_248_60, zfe (by omega), zfe (by omega), h.2.1, if_pos (by decide), h.2.2.2.2 1 (by decide)]
    · have c := cLp_e (d := d) (b := b) h.1 w h.2.1 (by decide)
      rw [if_pos rfl, ← es] at c
      exact c
  intro N
  induction N with
  | zero =>
    intro n s m c0 S hN ht u hS hm hm1 hc0
    exact stop n s m c0 S (by omega) ht u hS
  | succ N ih =>
    intro n s m c0 S hN ht u hS hm hm1 hc0
    by_cases q : s < t.1
    case neg => exact stop n s m c0 S q ht u hS
    have u1 := u.2.1
    have mh : ∀ σ, mOk t s m 0 S σ → mLp K σ = (zev (K + 21) 247 [.inr (.inr (0, 60))] σ).bind fun x0 => mLp K x0.2.2 := fun σ h => by
      unfold mLp
      rw [ez_248_35, h.2.1, if_pos (by decide), h.1.2.1, h.1.1.1, if_pos (by rw [iI_lt (by omega) (by omega)]; omega)]
    rcases rOu_i (d := d) (n := n) (K := K) w (by omega) ht q with ⟨s2, kd, dd, am, B, A, hn, o1, o2, o3, k0, k5, d0, d2, a0, a9, hE, hA, hB, o5, o6⟩ | ⟨s2, o1, o5, o6⟩
    case inr =>
      refine Or.inr ⟨s2, o1, fun S0 σ h h63 => ?_, fun b σ hb h => o6 c0 b σ hb h hc0⟩
      obtain ⟨τ, e1, e2, e3⟩ := o5 m S σ h hS hm1
      obtain ⟨υ, y1, y2, y3⟩ := mLp_60x (K := K) e3 (mS_f h63 (zFr_f e2 (fun i => by omega))) (by omega)
      refine ⟨υ, ?_, zFr_tt (zFr_i e2 fun _ _ _ q => by omega) y2, y3⟩
      rw [mh σ h, e1]
      exact y1
    case inl =>
    have hne : m + A.length ≤ s2 ∧ c0 + B.length ≤ s2 := by omega
    have wn := ru_w (B := B) u hS hn hm (by omega) ⟨k0, k5⟩ ⟨d0, d2⟩ ⟨a0, a9⟩ hE
    have en : aEnd (aRu (aPut S m A) n kd dd am (m + A.length)) (n + 1) = m + A.length := by
      show (aRu (aPut S m A) n kd dd am (m + A.length) (91 + 4 * n)).toNat = _
      rw [aRu_s.2.2.2.2]; omega
    have ol := (ru_old (kd := kd) (dd := dd) (am := am) (A := A) u hS hn hm).1
    have cn : ∀ b σ, b ≤ s → cAt t 0 n c0 0 [] [] σ → cU 4 S σ → cEn (σ.1 4 11) n = c0 → ∃ b2 τ, b2 ≤ s2 ∧ cLp d (iI (b : Nat)) (iI (s : Nat)) σ = cLp d (iI (b2 : Nat)) (iI (s2 : Nat)) τ ∧ zFr Wrd σ τ ∧ cAt t 0 (n + 1) (c0 + B.length) 0 [] [] τ ∧ cU 4 (aRu (aPut S m A) n kd dd am (m + A.length)) τ ∧ cEn (τ.1 4 11) (n + 1) = c0 + B.length := fun b σ hb h hU hc => by
      obtain ⟨b2, τ, e1, e2, e3, e4, e5, e6, e7, e8, e9, e10⟩ := o6 c0 b σ hb h hc0
      obtain ⟨x1, x2⟩ := ru_c (A := A) (kd := kd) (am := am) u hS hn hm (by omega) hE hU hc e3 e4 e5 e6 e7 e8 e9
      exact ⟨b2, τ, e1, e2, zFr_i e3 fun _ _ _ q => by omega, e4, x1, x2⟩
    rcases ih (n + 1) s2 (m + A.length) (c0 + B.length) _ (by omega) o2 wn aRu_s.1 en hne.1 hne.2 with ⟨S', r1, r2, r3, r4⟩ | ⟨s3, r1, r3, r4⟩
    · refine Or.inl ⟨S', r1, fun i a b => (r2 i a b).trans (ol i a (by omega)), fun σ h => ?_, fun b σ hb h hU hc => ?_⟩
      · obtain ⟨τ, e1, e2, e3, e4⟩ := o5 m S σ h hS hm1
        obtain ⟨υ, y1, y2, y3⟩ := r3 τ e3
        refine ⟨υ, ?_, zFr_tt (zFr_i e2 fun _ _ _ q => by omega) y2, y3⟩
        rw [mh σ h, e1]
        exact y1
      · obtain ⟨b2, τ, e1, e2, e3, e4, e5, e6⟩ := cn b σ hb h hU hc
        obtain ⟨υ, y1, y2, y3⟩ := r4 b2 τ e1 e4 e5 e6
        exact ⟨υ, e2.trans y1, zFr_tt e3 y2, y3⟩
    · refine Or.inr ⟨s3, r1, fun S0 σ h h63 => ?_, fun b σ hb h => ?_⟩
      · obtain ⟨τ, e1, e2, e3, e4⟩ := o5 m S σ h hS hm1
        obtain ⟨υ, y1, y2, y3⟩ := r3 S0 τ e3 (mS_f h63 (zFr_f e2 (fun i => by omega)))
        refine ⟨υ, ?_, zFr_tt (zFr_i e2 fun _ _ _ q => by omega) y2, y3⟩
        rw [mh σ h, e1]
        exact y1
      · obtain ⟨b2, τ, e1, e2, e3, e4, e5, e6, e7, e8, e9, e10⟩ := o6 c0 b σ hb h hc0
        obtain ⟨υ, y1, y2⟩ := r4 b2 τ e1 e4
        exact ⟨υ, e2.trans y1, zFr_tt (zFr_i e3 fun _ _ _ q => by omega) y2⟩
