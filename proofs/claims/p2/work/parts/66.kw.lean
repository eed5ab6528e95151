def zCd : List Int := [-20, -21, -22, -23, -24, -25, -16, -17, -18, -15, -9, -10, -11, -1, -2, -3, -4, -5]
theorem aNwd_i (m : Nat → Bool) : (∃ i, i < 18 ∧ m i = true ∧ aNwd m = zCd.getD i 0) ∨ ((∀ i, i < 18 → m i = false) ∧ aNwd m = -30) := by
  unfold aNwd
  by_cases q0 : m 0 = true
  · rw [if_pos q0]; exact Or.inl ⟨0, by decide, q0, rfl⟩
  rw [if_neg q0]
  by_cases q1 : m 1 = true
  · rw [if_pos q1]; exact Or.inl ⟨1, by decide, q1, rfl⟩
  rw [if_neg q1]
  by_cases q2 : m 2 = true
  · rw [if_pos q2]; exact Or.inl ⟨2, by decide, q2, rfl⟩
  rw [if_neg q2]
  by_cases q3 : m 3 = true
  · rw [if_pos q3]; exact Or.inl ⟨3, by decide, q3, rfl⟩
  rw [if_neg q3]
  by_cases q4 : m 4 = true
  · rw [if_pos q4]; exact Or.inl ⟨4, by decide, q4, rfl⟩
  rw [if_neg q4]
  by_cases q5 : m 5 = true
  · rw [if_pos q5]; exact Or.inl ⟨5, by decide, q5, rfl⟩
  rw [if_neg q5]
  by_cases q6 : m 6 = true
  · rw [if_pos q6]; exact Or.inl ⟨6, by decide, q6, rfl⟩
  rw [if_neg q6]
  by_cases q7 : m 7 = true
  · rw [if_pos q7]; exact Or.inl ⟨7, by decide, q7, rfl⟩
  rw [if_neg q7]
  by_cases q8 : m 8 = true
  · rw [if_pos q8]; exact Or.inl ⟨8, by decide, q8, rfl⟩
  rw [if_neg q8]
  by_cases q9 : m 9 = true
  · rw [if_pos q9]; exact Or.inl ⟨9, by decide, q9, rfl⟩
  rw [if_neg q9]
  by_cases q10 : m 10 = true
  · rw [if_pos q10]; exact Or.inl ⟨10, by decide, q10, rfl⟩
  rw [if_neg q10]
  by_cases q11 : m 11 = true
  · rw [if_pos q11]; exact Or.inl ⟨11, by decide, q11, rfl⟩
  rw [if_neg q11]
  by_cases q12 : m 12 = true
  · rw [if_pos q12]; exact Or.inl ⟨12, by decide, q12, rfl⟩
  rw [if_neg q12]
  by_cases q13 : m 13 = true
  · rw [if_pos q13]; exact Or.inl ⟨13, by decide, q13, rfl⟩
  rw [if_neg q13]
  by_cases q14 : m 14 = true
  · rw [if_pos q14]; exact Or.inl ⟨14, by decide, q14, rfl⟩
  rw [if_neg q14]
  by_cases q15 : m 15 = true
  · rw [if_pos q15]; exact Or.inl ⟨15, by decide, q15, rfl⟩
  rw [if_neg q15]
  by_cases q16 : m 16 = true
  · rw [if_pos q16]; exact Or.inl ⟨16, by decide, q16, rfl⟩
  rw [if_neg q16]
  by_cases q17 : m 17 = true
  · rw [if_pos q17]; exact Or.inl ⟨17, by decide, q17, rfl⟩
  rw [if_neg q17]
  refine Or.inr ⟨fun i hi => ?_, rfl⟩
  have e : ∀ {j : Nat}, ¬ m j = true → m j = false := fun {j} h => Bool.eq_false_iff.mpr h
  rcases (by omega : i = 0 ∨ i = 1 ∨ i = 2 ∨ i = 3 ∨ i = 4 ∨ i = 5 ∨ i = 6 ∨ i = 7 ∨ i = 8 ∨ i = 9 ∨ i = 10 ∨ i = 11 ∨ i = 12 ∨ i = 13 ∨ i = 14 ∨ i = 15 ∨ i = 16 ∨ i = 17) with rfl | rfl | rfl | rfl | rfl | rfl | rfl | rfl | rfl | rfl | rfl | rfl | rfl | rfl | rfl | rfl | rfl | rfl
  · exact e q0
  · exact e q1
  · exact e q2
  · exact e q3
  · exact e q4
  · exact e q5
  · exact e q6
  · exact e q7
  · exact e q8
  · exact e q9
  · exact e q10
  · exact e q11
  · exact e q12
  · exact e q13
  · exact e q14
  · exact e q15
  · exact e q16
  · exact e q17
theorem zKw_i : ∀ g, g < 18 → ∀ i, i < 18 → zKw.getD g 0 = zKw.getD i 0 → g = i := by decide +kernel
theorem zCd_i : ∀ g, g < 18 → ∀ i, i < 18 → zCd.getD g 0 = zCd.getD i 0 → g = i := by decide +kernel
theorem zCd_s : ∀ g, g < 18 → zCd.getD g 0 < 0 ∧ zCd.getD g 0 ≠ -30 ∧ zCd.getD g 0 ≠ -12 ∧ zCd.getD g 0 ≠ -13 ∧ zCd.getD g 0 ≠ -14 ∧ zCd.getD g 0 ≠ -6 ∧ zCd.getD g 0 ≠ -7 ∧ zCd.getD g 0 ≠ -8 := by decide +kernel
def aWe (t : zXt) (s : Nat) : Int := if s < t.1 then aWd t s else -99
theorem aSg_v (z : Int) : aSg z = -30 ∨ aSg z = -12 ∨ aSg z = -13 ∨ aSg z = -14 ∨ aSg z = -6 ∨ aSg z = -7 ∨ aSg z = -8 := by
  unfold aSg
  repeat' split
  all_goals omega
theorem aWe_k {t : zXt} {s g : Nat} (w : wT t) (hs0 : s ≤ t.1) (hg : g < 18) : (lg_cmp (aHs t s) (lI (zKw.getD g 0)) = 0) = (aWe t s = zCd.getD g 0) := by
  rw [aHs_is w hs0 hg]
  have hc := zCd_s g hg
  refine propext ?_
  unfold aWe
  by_cases q : s < t.1
  · rw [if_pos q]
    unfold aWd
    cases q2 : aLt (t.2 s)
    · rw [cond_false]
      constructor
      · rintro ⟨-, h, -⟩; cases h
      · intro h
        exfalso
        cases q3 : aDg (t.2 s)
        · rw [q3, cond_false] at h
          rcases aSg_v (t.2 s) with e | e | e | e | e | e | e <;> omega
        · rw [q3, cond_true] at h
          have := (aNv_r (t := t) (s := s) (aTe t s - s) (aTe_d q2 q3)).1
          split at h <;> omega
    · rw [cond_true]
      constructor
      · rintro ⟨-, -, h⟩
        rcases aNwd_i (aIs t s) with ⟨i, i1, i2, i3⟩ | ⟨h2, -⟩
        · have a := (aIs_h w q hg q2).mp h
          have b := (aIs_h w q i1 q2).mp i2
          rw [i3, zKw_i g hg i i1 (a.symm.trans b)]
        · rw [h2 g hg] at h; cases h
      · intro h
        rcases aNwd_i (aIs t s) with ⟨i, i1, i2, i3⟩ | ⟨-, h2⟩
        · rw [i3] at h
          rw [← zCd_i i i1 g hg h]
          exact ⟨q, rfl, i2⟩
        · omega
  · rw [if_neg q]
    constructor
    · rintro ⟨h, -⟩; exact absurd h q
    · intro h
      exfalso
      have := (by decide +kernel : ∀ g, g < 18 → zCd.getD g 0 ≠ -99) g hg
      omega
theorem zm239 {d s : Nat} {t : zXt} {σ : zM} (w : wT t) (h : mTk t s (aTf t s) σ) (hs0 : s ≤ t.1) (hF : σ.1 0 60 24 = zB false) : zev (d + 5) 239 [.inr (.inr (0, 60))] σ = some (iI (if -25 ≤ aWe t s ∧ aWe t s ≤ -20 then -20 - aWe t s else -1), 0, σ) := by
  have k := fun g hg => aWe_k (g := g) w hs0 hg
  have k0 : (lg_cmp (aHs t s) 2610408 = 0) = (aWe t s = -20) := k 0 (by decide)
  have k1 : (lg_cmp (aHs t s) 7935150 = 0) = (aWe t s = -21) := k 1 (by decide)
  have k2 : (lg_cmp (aHs t s) 4697 = 0) = (aWe t s = -22) := k 2 (by decide)
  have k3 : (lg_cmp (aHs t s) 15748 = 0) = (aWe t s = -23) := k 3 (by decide)
  have k4 : (lg_cmp (aHs t s) 17800118436 = 0) = (aWe t s = -24) := k 4 (by decide)
  have k5 : (lg_cmp (aHs t s) 11843827 = 0) = (aWe t s = -25) := k 5 (by decide)
  rw [ez_239]
  simp only [zm237 (d := d) w h hs0 hF, cond_false, zbs, k0, k1, k2, k3, k4, k5]
  generalize aWe t s = z
  by_cases q0 : z = -20
  · subst q0; rfl
  by_cases q1 : z = -21
  · subst q1; rfl
  by_cases q2 : z = -22
  · subst q2; rfl
  by_cases q3 : z = -23
  · subst q3; rfl
  by_cases q4 : z = -24
  · subst q4; rfl
  by_cases q5 : z = -25
  · subst q5; rfl
  rw [if_neg q0, if_neg q1, if_neg q2, if_neg q3, if_neg q4, if_neg q5, if_neg (by omega)]
  rfl
theorem zm240 {d s : Nat} {t : zXt} {F : Bool} {σ : zM} (w : wT t) (h : mTk t s (aTf t s) σ) (hs0 : s ≤ t.1) (hF : σ.1 0 60 24 = zB F) : zev (d + 5) 240 [.inr (.inr (0, 60))] σ = some (iI (if F = false ∧ -5 ≤ aWe t s ∧ aWe t s ≤ -1 then aWe t s else 0), 0, σ) := by
  have k := fun g hg => aWe_k (g := g) w hs0 hg
  have k0 : (lg_cmp (aHs t s) 19504 = 0) = (aWe t s = -1) := k 13 (by decide)
  have k1 : (lg_cmp (aHs t s) 763332 = 0) = (aWe t s = -2) := k 14 (by decide)
  have k2 : (lg_cmp (aHs t s) 409031 = 0) = (aWe t s = -3) := k 15 (by decide)
  have k3 : (lg_cmp (aHs t s) 8892563 = 0) = (aWe t s = -4) := k 16 (by decide)
  have k4 : (lg_cmp (aHs t s) 492210354 = 0) = (aWe t s = -5) := k 17 (by decide)
  rw [ez_240]
  simp only [zm237 (d := d) w h hs0 hF, zbs]
  cases F
  · simp only [cond_false, k0, k1, k2, k3, k4]
    generalize aWe t s = z
    by_cases q0 : z = -1
    · subst q0; rfl
    by_cases q1 : z = -2
    · subst q1; rfl
    by_cases q2 : z = -3
    · subst q2; rfl
    by_cases q3 : z = -4
    · subst q3; rfl
    by_cases q4 : z = -5
    · subst q4; rfl
    rw [if_neg q0, if_neg q1, if_neg q2, if_neg q3, if_neg q4, if_neg (fun y => by omega)]
    rfl
  · simp only [cond_true]
    rw [if_neg (show ¬ lg_cmp 0 19504 = 0 by decide), if_neg (show ¬ lg_cmp 0 763332 = 0 by decide), if_neg (show ¬ lg_cmp 0 409031 = 0 by decide), if_neg (show ¬ lg_cmp 0 8892563 = 0 by decide), if_neg (show ¬ lg_cmp 0 492210354 = 0 by decide), if_neg (show ¬ (true = false ∧ -5 ≤ aWe t s ∧ aWe t s ≤ -1) from fun z => by cases z.1)]
    rfl
