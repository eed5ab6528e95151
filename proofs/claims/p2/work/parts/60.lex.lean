def aLt (z : Int) : Bool := decide (97 ≤ z ∧ z ≤ 122)
def aDg (z : Int) : Bool := decide (48 ≤ z ∧ z ≤ 57)
theorem zc82 {d : Nat} {z : Int} {σ : zM} (hz : zrn z) : zev (d + 1) 82 [.inl (iI z)] σ = some (zB (aLt z), 0, σ) := by
  have e1 : (iI z < 97) = (z < 97) := iI_lt (b := 97) hz (by decide)
  have e2 : (122 < iI z) = (122 < z) := iI_lt (a := 122) (by decide) hz
  rw [ez_82]
  simp only [e1, e2]
  unfold aLt
  by_cases q1 : z < 97
  · rw [if_pos q1, zgd_t (by decide), decide_eq_false (by omega)]; rfl
  · rw [if_neg q1]
    by_cases q2 : 122 < z
    · rw [if_pos q2, zgd_t (by decide), decide_eq_false (by omega)]; rfl
    · rw [if_neg q2, zgd_t (by decide), decide_eq_true (by omega)]; rfl
theorem zc83 {d : Nat} {z : Int} {σ : zM} (hz : zrn z) : zev (d + 1) 83 [.inl (iI z)] σ = some (zB (aDg z), 0, σ) := by
  have e1 : (iI z < 48) = (z < 48) := iI_lt (b := 48) hz (by decide)
  have e2 : (57 < iI z) = (57 < z) := iI_lt (a := 57) (by decide) hz
  rw [ez_83]
  simp only [e1, e2]
  unfold aDg
  by_cases q1 : z < 48
  · rw [if_pos q1, zgd_t (by decide), decide_eq_false (by omega)]; rfl
  · rw [if_neg q1]
    by_cases q2 : 57 < z
    · rw [if_pos q2, zgd_t (by decide), decide_eq_false (by omega)]; rfl
    · rw [if_neg q2, zgd_t (by decide), decide_eq_true (by omega)]; rfl
theorem zm233 {d : Nat} {z : Int} {σ : zM} (hz : zrn z) : zev (d + 2) 233 [.inl (iI z)] σ = some (zB (aLt z), 0, σ) := by
  have e : zev (d + 1) 149 [.inr (.inl (Int32.toInt64 (iI z))), .inr (.inl 97), .inr (.inl 122)] σ = some (zB (aLt z), 0, σ) := zm149k (l := 97) (h := 122) hz (by decide) (by decide)
  rw [ez_233]
  simp only [e, zbs]
  exact zB_g
theorem zm234 {d : Nat} {z : Int} {σ : zM} (hz : zrn z) : zev (d + 2) 234 [.inl (iI z)] σ = some (zB (aDg z), 0, σ) := by
  have e : zev (d + 1) 149 [.inr (.inl (Int32.toInt64 (iI z))), .inr (.inl 48), .inr (.inl 57)] σ = some (zB (aDg z), 0, σ) := zm149k (l := 48) (h := 57) hz (by decide) (by decide)
  rw [ez_234]
  simp only [e, zbs]
  exact zB_g
def aBt (t : zXt) (p : Nat) : Int := if p < t.1 then t.2 p else -1
theorem aBt_r {t : zXt} (w : wT t) (p : Nat) : -1 ≤ aBt t p ∧ aBt t p ≤ 255 := by
  unfold aBt
  split
  · have := w.2 p ‹_›; omega
  · omega
theorem zm232 {d p : Nat} {t : zXt} {σ : zM} (h : mTp t σ) (w : wT t) (hp : p ≤ 1000) : zev (d + 1) 232 [.inr (.inr (0, 60)), .inl (iI p)] σ = some (iI (aBt t p), 0, σ) := by
  have hl := w.1
  rw [ez_232, h.1]
  simp only [iI_lt (show zrn (p : Int) by omega) (show zrn (t.1 : Int) by omega)]
  unfold aBt
  by_cases q : p < t.1
  · rw [if_pos (by omega), if_pos q, zgd_t (iI_ink (z := p) (k := p) rfl (show p < 200 by omega) (by decide)), iI_Nn (show p ≤ 2147483647 by omega), h.2 p q]
  · rw [if_neg (by omega), if_neg q]; rfl
def aRn (P : Int → Bool) (t : zXt) : Nat → Nat → Nat
  | 0, p => p
  | n + 1, p => bif P (t.2 p) then aRn P t n (p + 1) else p
theorem aRn_l {P : Int → Bool} {t : zXt} : ∀ (n p : Nat), p ≤ aRn P t n p ∧ aRn P t n p ≤ p + n
  | 0, p => ⟨Nat.le_refl _, Nat.le_refl _⟩
  | n + 1, p => by
    have := aRn_l (P := P) (t := t) n (p + 1)
    show p ≤ (bif P (t.2 p) then aRn P t n (p + 1) else p) ∧ (bif P (t.2 p) then aRn P t n (p + 1) else p) ≤ p + (n + 1)
    cases P (t.2 p)
    · rw [cond_false]; omega
    · rw [cond_true]; omega
theorem aRn_a {P : Int → Bool} {t : zXt} : ∀ (n p i : Nat), p ≤ i → i < aRn P t n p → P (t.2 i) = true
  | 0, p, i, h1, h2 => by have h2 : i < p := h2; omega
  | n + 1, p, i, h1, h2 => by
    have h2 : i < (bif P (t.2 p) then aRn P t n (p + 1) else p) := h2
    cases q : P (t.2 p)
    · rw [q, cond_false] at h2; omega
    · rw [q, cond_true] at h2
      by_cases e : i = p
      · rw [e]; exact q
      · exact aRn_a n (p + 1) i (by omega) h2
def aTe (t : zXt) (s : Nat) : Nat := if aLt (t.2 s) = true then aRn aLt t (t.1 - (s + 1)) (s + 1) else if aDg (t.2 s) = true then aRn aDg t (t.1 - (s + 1)) (s + 1) else s + 1
theorem aTe_l {t : zXt} {s : Nat} (h : s < t.1) : s < aTe t s ∧ aTe t s ≤ t.1 := by
  have h1 := aRn_l (P := aLt) (t := t) (t.1 - (s + 1)) (s + 1)
  have h2 := aRn_l (P := aDg) (t := t) (t.1 - (s + 1)) (s + 1)
  unfold aTe
  split
  · omega
  · split <;> omega
theorem zc77 {d s : Nat} {t : zXt} {σ : zM} (h : cTp t σ) (w : wT t) (hs : s < t.1) : zev (d + 2) 77 [.inr (.inr (0, 31)), .inl (iI s)] σ = some (iI (aTe t s : Nat), 0, σ) := by
  have hl := w.1
  have w1 := w.2 s hs
  have key : ∀ (nm : Bool) (n p : Nat) (d1 : Option zV), p + n = t.1 → zrun (zev (d + 1)) zT_77 34 [some (.inr (.inr (0, 31))), d1, some (.inl (zB nm)), some (.inl (iI p))] [] σ = some (iI (aRn (bif nm then aLt else aDg) t n p : Nat), 0, σ) := by
    intro nm n
    induction n with
    | zero =>
      intro p d1 hp
      rw [ez_77_34, h.1, if_neg (by rw [iI_lt (by omega) (by omega)]; omega), show p = t.1 by omega]
      rfl
    | succ n ih =>
      intro p d1 hp
      have wp := w.2 p (by omega)
      have e : aRn (bif nm then aLt else aDg) t (n + 1) p = bif (bif nm then aLt else aDg) (t.2 p) then aRn (bif nm then aLt else aDg) t n (p + 1) else p := rfl
      rw [e, ez_77_34, h.1, if_pos (by rw [iI_lt (by omega) (by omega)]; omega)]
      simp only [zgd_t (iI_ink (z := p) (k := p) rfl (show p < 200 by omega) (by decide)), iI_Nn (show p ≤ 2147483647 by omega), h.2 p (by omega), zc82 (d := d) (show zrn (t.2 p) by omega), zc83 (d := d) (show zrn (t.2 p) by omega), zbs, zBi, hki1]
      cases nm
      · rw [cond_false, cond_false]
        rw [cond_false] at ih
        cases aDg (t.2 p)
        · rw [cond_false, cond_false]
        · rw [cond_true, cond_true]; exact ih (p + 1) none (by omega)
      · rw [cond_true, cond_true]
        rw [cond_true] at ih
        cases aLt (t.2 p)
        · rw [cond_false, cond_false]
        · rw [cond_true, cond_true]; exact ih (p + 1) none (by omega)
  rw [ez_77]
  simp only [zgd_t (iI_ink (z := s) (k := s) rfl (show s < 200 by omega) (by decide)), iI_Nn (show s ≤ 2147483647 by omega), h.2 s hs, zc82 (d := d) (show zrn (t.2 s) by omega), zc83 (d := d) (show zrn (t.2 s) by omega), zbs, zBi, hki1]
  unfold aTe
  cases q : aLt (t.2 s)
  · rw [cond_false, if_neg (by decide)]
    cases q2 : aDg (t.2 s)
    · rw [cond_false, if_neg (by decide)]
    · rw [cond_true, if_pos rfl]
      exact key false _ (s + 1) _ (by omega)
  · rw [cond_true, if_pos rfl]
    exact key true _ (s + 1) _ (by omega)
theorem zc76 {d s : Nat} {t : zXt} {σ : zM} (h : cTp t σ) (w : wT t) (hs : s < t.1) : zev (d + 1) 76 [.inr (.inr (0, 31)), .inl (iI s)] σ = some (zB (decide (t.2 s = 32)), 0, σ) := by
  have hl := w.1
  have w1 := w.2 s hs
  have e1 : (iI (t.2 s) = 32) = (t.2 s = 32) := iI_eq (b := 32) (by omega) (by decide)
  rw [ez_76]
  simp only [zgd_t (iI_ink (z := s) (k := s) rfl (show s < 200 by omega) (by decide)), iI_Nn (show s ≤ 2147483647 by omega), h.2 s hs, e1]
  by_cases q : t.2 s = 32
  · rw [if_pos q, zgd_t (by decide), decide_eq_true q]; rfl
  · rw [if_neg q, zgd_t (by decide), decide_eq_false q]; rfl
def aNv (t : zXt) (s : Nat) : Nat → Int
  | 0 => 0
  | n + 1 => aNv t s n * 10 + (t.2 (s + n) - 48)
theorem aNv_r {t : zXt} {s : Nat} : ∀ (n : Nat), (∀ i, i < n → aDg (t.2 (s + i)) = true) → 0 ≤ aNv t s n ∧ aNv t s n < 10 ^ n
  | 0, _ => ⟨Int.le_refl _, by show (0 : Int) < 10 ^ 0; decide⟩
  | n + 1, h => by
    have ih := aNv_r (t := t) (s := s) n (fun i hi => h i (by omega))
    have h0 : 48 ≤ t.2 (s + n) ∧ t.2 (s + n) ≤ 57 := of_decide_eq_true (h n (by omega))
    show 0 ≤ aNv t s n * 10 + (t.2 (s + n) - 48) ∧ aNv t s n * 10 + (t.2 (s + n) - 48) < 10 ^ (n + 1)
    have e : (10 : Int) ^ (n + 1) = 10 ^ n * 10 := Int.pow_succ 10 n
    omega
theorem aTe_d {t : zXt} {s : Nat} (q1 : aLt (t.2 s) = false) (q2 : aDg (t.2 s) = true) : ∀ i, i < aTe t s - s → aDg (t.2 (s + i)) = true := by
  intro i hi
  have e : aTe t s = aRn aDg t (t.1 - (s + 1)) (s + 1) := by
    unfold aTe
    rw [q1, q2, if_neg (by decide), if_pos rfl]
  by_cases q : i = 0
  · rw [q]; exact q2
  · exact aRn_a (t.1 - (s + 1)) (s + 1) (s + i) (by omega) (by omega)
theorem aTe_a {t : zXt} {s : Nat} (q1 : aLt (t.2 s) = true) : ∀ i, i < aTe t s - s → aLt (t.2 (s + i)) = true := by
  intro i hi
  have e : aTe t s = aRn aLt t (t.1 - (s + 1)) (s + 1) := by
    unfold aTe
    rw [q1, if_pos rfl]
  by_cases q : i = 0
  · rw [q]; exact q1
  · exact aRn_a (t.1 - (s + 1)) (s + 1) (s + i) (by omega) (by omega)
theorem zc79 {d s : Nat} {t : zXt} {σ : zM} (h : cTp t σ) (w : wT t) (hs : s < t.1) (q1 : aLt (t.2 s) = false) (q2 : aDg (t.2 s) = true) : zev (d + 1) 79 [.inr (.inr (0, 31)), .inl (iI s), .inl (iI (aTe t s : Nat))] σ = some (iI (if 4 < aTe t s - s then -30 else aNv t s (aTe t s - s)), 0, σ) := by
  have hl := w.1
  have he := aTe_l hs
  have hd := aTe_d q1 q2
  have e4 : (4 < iI ((aTe t s : Nat) : Int) - iI (s : Int)) = ((4 : Int) < (aTe t s : Nat) - s) := by
    rw [iI_sub]; exact iI_lt (a := 4) (by decide) (by omega)
  rw [ez_79]
  simp only [e4]
  by_cases q : 4 < aTe t s - s
  · rw [if_pos (by omega), if_pos q]; rfl
  · rw [if_neg (by omega), if_neg q]
    have key : ∀ (n k : Nat) (d1 : Option zV), k + n = aTe t s - s → zrun (zev d) zT_79 15 [some (.inr (.inr (0, 31))), d1, some (.inl (iI (aTe t s : Nat))), some (.inl (iI (aNv t s k))), some (.inl (iI ((s + k : Nat) : Int)))] [] σ = some (iI (aNv t s (aTe t s - s)), 0, σ) := by
      intro n
      induction n with
      | zero =>
        intro k d1 hk
        rw [ez_79_15, if_neg (by rw [iI_lt (by omega) (by omega)]; omega), show k = aTe t s - s by omega]
      | succ n ih =>
        intro k d1 hk
        rw [ez_79_15, if_pos (by rw [iI_lt (by omega) (by omega)]; omega), zgd_t (iI_ink (z := ((s + k : Nat) : Int)) (k := s + k) rfl (show s + k < 200 by omega) (by decide)), iI_Nn (show s + k ≤ 2147483647 by omega), h.2 (s + k) (by omega), hki1]
        have e : iI (aNv t s k) * 10 + (iI (t.2 (s + k)) - 48) = iI (aNv t s (k + 1)) := by
          show iI (aNv t s k) * iI 10 + (iI (t.2 (s + k)) - iI 48) = _
          rw [iI_mul, iI_sub, iI_add]; rfl
        rw [e]
        exact ih (k + 1) none (by omega)
    exact key (aTe t s - s) 0 (some (.inl (iI s))) (by omega)
