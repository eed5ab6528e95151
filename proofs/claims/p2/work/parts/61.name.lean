def aMt (t : zXt) : Nat → List Int32 → Bool
  | _, [] => true
  | p, c :: l => decide (iI (t.2 p) = c) && aMt t (p + 1) l
theorem z274 {d g : Nat} {σ : zM} : zev (d + 2) 274 [.inr (.inr (g, 95))] σ = some (nI (zSL.getD g []).length >>> ((0 : Int32) &&& 31), 0, σ) := by
  rw [ez_274]
  simp only [ez_276]
  rw [if_neg (by decide), zgd_t (by decide)]
  rfl
theorem zSL_c : ∀ g, g < 18 → (zSL.getD g []).length < 10 ∧ ∀ i, i < (zSL.getD g []).length → ((Int32.toUInt32 (((zSL.getD g []).getD i 0) &&& 255)) % 65536).toInt32 = (zSL.getD g []).getD i 0 ∧ zret 4 (((Int32.toUInt32 (((zSL.getD g []).getD i 0) &&& 255)) % 65536).toInt32) = true := by decide +kernel
theorem zSL_l : ∀ n, n < 10 → nI n >>> ((0 : Int32) &&& 31) = iI n := by decide +kernel
theorem z275 {d g i : Nat} {σ : zM} (hg : g < 18) (hi : i < (zSL.getD g []).length) : zev (d + 5) 275 [.inr (.inr (g, 95)), .inl (iI i)] σ = some ((zSL.getD g []).getD i 0, 0, σ) := by
  have hc := zSL_c g hg
  have h1 := hc.2 i hi
  have e277 : zev (d + 4) 277 [.inr (.inr (g, 95))] σ = some (1, 0, σ) := by
    rw [ez_277]
    simp only
    rw [if_neg (by decide), if_pos (by decide), zgd_t (by decide)]
  have e280 : zev (d + 2) 280 [.inl (iI i), .inl (nI (zSL.getD g []).length), .inr (.inr (0, 99))] σ = some (iI i, 0, σ) := by
    rw [ez_280]
    simp only
    rw [if_neg (by rw [iI_lt0 (by omega)]; omega), if_pos (by rw [nI_iI, iI_lt (by omega) (by omega)]; omega)]
  have e278 : zev (d + 3) 278 [.inl (iI i), .inl (nI (zSL.getD g []).length)] σ = some (0, 0, σ) := by
    rw [ez_278]
    simp only [e280, zbs]
  have e279 : zev (d + 4) 279 [.inr (.inr (g, 96)), .inl (iI i)] σ = some ((zSL.getD g []).getD i 0, 0, σ) := by
    rw [ez_279]
    simp only [e278, zbs, iI_Nn (show i ≤ 2147483647 by omega)]
    rw [zgd_t (iI_ink (z := i) (k := i) rfl hi (by omega)), zgd_t h1.2, h1.1]
  have h2 : zret 4 ((zSL.getD g []).getD i 0) = true := by rw [← h1.1]; exact h1.2
  rw [ez_275]
  simp only [e277, zbs, e279]
  rw [if_neg (by decide), zgd_t h2]
theorem aMt_d {t : zXt} : ∀ (l : List Int32) (p : Nat), aMt t p l = true ↔ ∀ i, i < l.length → iI (t.2 (p + i)) = l.getD i 0
  | [], p => ⟨fun _ i hi => absurd hi (Nat.not_lt_zero i), fun _ => rfl⟩
  | c :: l, p => by
    have ih := aMt_d (t := t) l (p + 1)
    show (decide (iI (t.2 p) = c) && aMt t (p + 1) l) = true ↔ _
    rw [Bool.and_eq_true, decide_eq_true_iff, ih]
    constructor
    · rintro ⟨h1, h2⟩ i hi
      cases i with
      | zero => exact h1
      | succ i =>
        have := h2 i (Nat.lt_of_succ_lt_succ hi)
        rw [show p + (i + 1) = p + 1 + i by omega]
        exact this
    · intro h
      refine ⟨h 0 (Nat.succ_pos _), fun i hi => ?_⟩
      have := h (i + 1) (Nat.succ_lt_succ hi)
      rw [show p + (i + 1) = p + 1 + i by omega] at this
      exact this
def aIs (t : zXt) (s g : Nat) : Bool := decide (aTe t s - s = (zSL.getD g []).length) && aMt t s (zSL.getD g [])
theorem zc81 {d s g : Nat} {t : zXt} {σ : zM} (h : cTp t σ) (w : wT t) (hs : s < t.1) (hg : g < 18) : zev (d + 6) 81 [.inr (.inr (0, 31)), .inr (.inr (g, 95)), .inl (iI s), .inl (iI (aTe t s : Nat))] σ = some (zB (aIs t s g), 0, σ) := by
  have hl := w.1
  have he := aTe_l hs
  have hc := zSL_c g hg
  rw [ez_81]
  simp only [z274 (d := d + 3), zbs, zSL_l _ hc.1, iI_sub, iI_eq (show zrn (((aTe t s : Nat) : Int) - s) by omega) (show zrn (((zSL.getD g []).length : Nat) : Int) by omega)]
  unfold aIs
  by_cases q : aTe t s - s = (zSL.getD g []).length
  · rw [if_pos (by omega), decide_eq_true q, Bool.true_and]
    have key : ∀ (n k : Nat), k + n = (zSL.getD g []).length → (∀ i, i < k → iI (t.2 (s + i)) = (zSL.getD g []).getD i 0) → zrun (zev (d + 5)) zT_81 15 [some (.inr (.inr (0, 31))), some (.inr (.inr (g, 95))), some (.inl (iI s)), some (.inl (iI (aTe t s : Nat))), some (.inl (iI ((s + k : Nat) : Int)))] [] σ = some (zB (aMt t s (zSL.getD g [])), 0, σ) := by
      intro n
      induction n with
      | zero =>
        intro k hk hm
        rw [ez_81_15, if_neg (by rw [iI_lt (by omega) (by omega)]; omega), zgd_t (by decide), (aMt_d _ _).mpr (fun i hi => hm i (by omega))]
        rfl
      | succ n ih =>
        intro k hk hm
        have e1 : iI ((s + k : Nat) : Int) - iI (s : Int) = iI (k : Int) := by rw [iI_sub]; congr 1; omega
        rw [ez_81_15, if_pos (by rw [iI_lt (by omega) (by omega)]; omega), zgd_t (iI_ink (z := ((s + k : Nat) : Int)) (k := s + k) rfl (show s + k < 200 by omega) (by decide)), iI_Nn (show s + k ≤ 2147483647 by omega), h.2 (s + k) (by omega), e1, z275 (d := d) hg (show k < _ by omega), hki1]
        simp only [zbs]
        by_cases q2 : iI (t.2 (s + k)) = (zSL.getD g []).getD k 0
        · rw [if_pos q2]
          exact ih (k + 1) (by omega) (fun i hi => by
            by_cases e : i = k
            · rw [e]; exact q2
            · exact hm i (by omega))
        · rw [if_neg q2, zgd_t (by decide)]
          have : aMt t s (zSL.getD g []) = false := by
            cases q3 : aMt t s (zSL.getD g [])
            · rfl
            · exact absurd ((aMt_d _ _).mp q3 k (by omega)) q2
          rw [this]; rfl
    exact key (zSL.getD g []).length 0 (by omega) (fun i hi => absurd hi (Nat.not_lt_zero i))
  · rw [if_neg (by omega), decide_eq_false q, Bool.false_and, zgd_t (by decide)]
    rfl
def aNwd (m : Nat → Bool) : Int := if m 0 then -20 else if m 1 then -21 else if m 2 then -22 else if m 3 then -23 else if m 4 then -24 else if m 5 then -25 else if m 6 then -16 else if m 7 then -17 else if m 8 then -18 else if m 9 then -15 else if m 10 then -9 else if m 11 then -10 else if m 12 then -11 else if m 13 then -1 else if m 14 then -2 else if m 15 then -3 else if m 16 then -4 else if m 17 then -5 else -30
theorem zc80 {d s : Nat} {t : zXt} {σ : zM} (h : cTp t σ) (w : wT t) (hs : s < t.1) : zev (d + 7) 80 [.inr (.inr (0, 31)), .inl (iI s), .inl (iI (aTe t s : Nat))] σ = some (iI (aNwd (aIs t s)), 0, σ) := by
  have e := fun g (hg : g < 18) => zc81 (d := d) h w hs hg
  rw [ez_80]
  simp only [e 0 (by decide), e 1 (by decide), e 2 (by decide), e 3 (by decide), e 4 (by decide), e 5 (by decide), e 6 (by decide), e 7 (by decide), e 8 (by decide), e 9 (by decide), e 10 (by decide), e 11 (by decide), e 12 (by decide), e 13 (by decide), e 14 (by decide), e 15 (by decide), e 16 (by decide), e 17 (by decide), zbs, zBi]
  unfold aNwd
  cases aIs t s 0
  case true => rfl
  cases aIs t s 1
  case true => rfl
  cases aIs t s 2
  case true => rfl
  cases aIs t s 3
  case true => rfl
  cases aIs t s 4
  case true => rfl
  cases aIs t s 5
  case true => rfl
  cases aIs t s 6
  case true => rfl
  cases aIs t s 7
  case true => rfl
  cases aIs t s 8
  case true => rfl
  cases aIs t s 9
  case true => rfl
  cases aIs t s 10
  case true => rfl
  cases aIs t s 11
  case true => rfl
  cases aIs t s 12
  case true => rfl
  cases aIs t s 13
  case true => rfl
  cases aIs t s 14
  case true => rfl
  cases aIs t s 15
  case true => rfl
  cases aIs t s 16
  case true => rfl
  cases aIs t s 17
  case true => rfl
  rfl
def aSg (z : Int) : Int := if z = 40 then -12 else if z = 41 then -13 else if z = 59 then -14 else if z = 60 then -6 else if z = 61 then -7 else if z = 62 then -8 else -30
def aWd (t : zXt) (s : Nat) : Int := bif aLt (t.2 s) then aNwd (aIs t s) else bif aDg (t.2 s) then (if 4 < aTe t s - s then -30 else aNv t s (aTe t s - s)) else aSg (t.2 s)
theorem zc78 {d s : Nat} {t : zXt} {σ : zM} (h : cTp t σ) (w : wT t) (hs : s < t.1) : zev (d + 8) 78 [.inr (.inr (0, 31)), .inl (iI s), .inl (iI (aTe t s : Nat))] σ = some (iI (aWd t s), 0, σ) := by
  have hl := w.1
  have w1 := w.2 s hs
  have e40 : (iI (t.2 s) = 40) = (t.2 s = 40) := iI_eq (b := 40) (by omega) (by decide)
  have e41 : (iI (t.2 s) = 41) = (t.2 s = 41) := iI_eq (b := 41) (by omega) (by decide)
  have e59 : (iI (t.2 s) = 59) = (t.2 s = 59) := iI_eq (b := 59) (by omega) (by decide)
  have e60 : (iI (t.2 s) = 60) = (t.2 s = 60) := iI_eq (b := 60) (by omega) (by decide)
  have e61 : (iI (t.2 s) = 61) = (t.2 s = 61) := iI_eq (b := 61) (by omega) (by decide)
  have e62 : (iI (t.2 s) = 62) = (t.2 s = 62) := iI_eq (b := 62) (by omega) (by decide)
  rw [ez_78]
  simp only [zgd_t (iI_ink (z := s) (k := s) rfl (show s < 200 by omega) (by decide)), iI_Nn (show s ≤ 2147483647 by omega), h.2 s hs, zc82 (d := d + 6) (show zrn (t.2 s) by omega), zc83 (d := d + 6) (show zrn (t.2 s) by omega), zbs, zBi, zc80 (d := d) h w hs, e40, e41, e59, e60, e61, e62]
  unfold aWd
  cases q : aLt (t.2 s)
  case true => rw [cond_true, cond_true]
  rw [cond_false, cond_false]
  cases q2 : aDg (t.2 s)
  case true =>
    have e79 := zc79 (d := d + 6) h w hs q q2
    rw [cond_true, cond_true, e79]
    rfl
  rw [cond_false, cond_false]
  unfold aSg
  repeat' split
  all_goals rfl
