theorem zp_121 (p0 : Int32) : zcK 121 225 [.inl p0] := by
  by_cases h : zrg 1 p0 60
  · obtain ⟨n, hn, rfl⟩ := zrg_nat (l := 1) (h := 60) h
    exact zcq (zpc_121 n hn) (zpm_121 n hn) (zAi zA0) (zAi zA0)
  · refine ⟨-1, fun τ hτ => ?_, fun τ hτ => ?_⟩
    · rw [ez_121]
      simp only [F141, zk_0, zl_0, zk_1, zl_1, zk_2, zl_2, zk_3, zl_3, zk_4, zl_4, zk_5, zl_5, zk_6, zl_6, zk_8, zl_8, zk_9, zl_9, zk_10, zl_10, zk_14, zl_14, zk_20, zl_20, zk_40, zl_40, zk_60, zl_60, zk_200, zl_200, zk_999, zl_999, zk_m1, zl_m1, if_neg h, zbs, if_true]
      exact ⟨_, _, _, rfl, rfl⟩
    · rw [ez_225]
      simp only [F149, zk_0, zl_0, zk_1, zl_1, zk_2, zl_2, zk_3, zl_3, zk_4, zl_4, zk_5, zl_5, zk_6, zl_6, zk_8, zl_8, zk_9, zl_9, zk_10, zl_10, zk_14, zl_14, zk_20, zl_20, zk_40, zl_40, zk_60, zl_60, zk_200, zl_200, zk_999, zl_999, zk_m1, zl_m1, if_neg h, zbs, if_true]
      exact ⟨_, _, _, rfl, rfl⟩
theorem zpc_136 : ∀ n, n < 7 → zqc 9000 64 136 [.inr (.inr (0, 30)), .inl (Int32.ofNat n)] 0 = true := by decide +kernel
theorem zpm_136 : ∀ n, n < 7 → zqc 9000 64 268 [.inr (.inr (0, 60)), .inl (Int32.ofNat n)] 0 = true := by decide +kernel
theorem zp_136 (p0 : Int32) : zcK 136 268 [.inl p0] := by
  by_cases h : zrg 0 p0 6
  · obtain ⟨n, hn, rfl⟩ := zrg_nat (l := 0) (h := 6) h
    exact zcq (zpc_136 n hn) (zpm_136 n hn) (zAi zA0) (zAi zA0)
  · have n0 : ¬ p0 = 0 := fun e => h (by subst e; decide)
    have n1 : ¬ p0 = 1 := fun e => h (by subst e; decide)
    have n2 : ¬ p0 = 2 := fun e => h (by subst e; decide)
    have n3 : ¬ p0 = 3 := fun e => h (by subst e; decide)
    have n4 : ¬ p0 = 4 := fun e => h (by subst e; decide)
    have n5 : ¬ p0 = 5 := fun e => h (by subst e; decide)
    have n6 : ¬ p0 = 6 := fun e => h (by subst e; decide)
    refine ⟨-1, fun τ hτ => ?_, fun τ hτ => ?_⟩
    · rw [ez_136]
      simp only [if_neg n0, if_neg n1, if_neg n2, if_neg n3, if_neg n4, if_neg n5, if_neg n6]
      exact ⟨_, _, _, rfl, rfl⟩
    · rw [ez_268]
      simp only [if_neg n0, if_neg n1, if_neg n2, if_neg n3, if_neg n4, if_neg n5, if_neg n6]
      exact ⟨_, _, _, rfl, rfl⟩
theorem zpc_110 : ∀ n, n < 4 → zqc 9000 64 110 [.inr (.inr (0, 30)), .inl 0, .inl (Int32.ofNat n)] (-3) = true := by decide +kernel
theorem zpm_110 : ∀ n, n < 4 → zqc 9000 64 208 [.inr (.inr (0, 60)), .inl 0, .inl (Int32.ofNat n)] (-3) = true := by decide +kernel
theorem zpc_111 : zqc 9000 64 111 [.inr (.inr (0, 30)), .inl 0] 0 = true := by decide +kernel
theorem zpm_111 : zqc 9000 64 209 [.inr (.inr (0, 60)), .inl 0] 0 = true := by decide +kernel
theorem F114_n {d : Nat} {p : Int32} {σ : zM} (h : σ.1 0 15 0 = 0) (hp : p ≠ 0) : zev (d + 1) 114 [.inr (.inr (0, 30)), .inl p] σ = some (0, 0, σ) := by
  rw [ez_114, h]
  have e : (Int32.toUInt32 p >>> (Int32.toUInt32 0 &&& Int32.toUInt32 31)).toInt32 = p := by
    have z : (Int32.toUInt32 0 &&& Int32.toUInt32 31) = 0 := by decide
    rw [z, UInt32.shiftRight_zero, Int32.toInt32_toUInt32]
  show (if (Int32.toUInt32 p >>> (Int32.toUInt32 0 &&& Int32.toUInt32 31)).toInt32 = 0 then _ else _) = _
  rw [e, if_neg hp, zg30]
theorem F114_0 {d : Nat} {σ : zM} (h : σ.1 0 15 0 = 0) : zev (d + 2) 114 [.inr (.inr (0, 30)), .inl 0] σ = some (1, 0, σ) := by
  rw [ez_114, h]
  have e : (Int32.toUInt32 0 >>> (Int32.toUInt32 0 &&& Int32.toUInt32 31)).toInt32 = 0 := by decide
  show (if (Int32.toUInt32 0 >>> (Int32.toUInt32 0 &&& Int32.toUInt32 31)).toInt32 = 0 then Option.bind (zev (d + 1) 271 _ σ) _ else _) = _
  have e2 : zev (d + 1) 271 [.inl 0] σ = some (0, 0, σ) := by
    rw [ez_271]
    exact congrArg (fun v => (some (v, 0, σ) : zR)) (by decide)
  rw [e, if_pos rfl, e2, zbs, if_neg (show ¬ (4 : Int32) < 0 by decide), zg31]
theorem zsh0 : (Int32.toInt64 (((1 : Int32) <<< ((0 : Int32) &&& 31)) - 1)).toInt = 0 := by decide
theorem F205_n {d : Nat} {p : Int32} {σ : zM} (h : σ.1 0 61 2 = 0) (hp : p ≠ 0) : zev (d + 2) 205 [.inr (.inr (0, 60)), .inl p] σ = some (0, 0, σ) := by
  rw [ez_205, h]
  show (Option.bind (zev (d + 1) 149 _ σ) _) = _
  rw [F149, zbs, if_neg (fun q : zrg _ p _ => ?_), if_pos rfl, zg30]
  have h1 := q.1
  have h2 := q.2
  rw [zsh0] at h2
  rw [zl_0] at h1
  exact hp (Int32.toInt_inj.mp (by rw [zk_0]; omega))
theorem F205_0 {d : Nat} {σ : zM} (h : σ.1 0 61 2 = 0) : zev (d + 3) 205 [.inr (.inr (0, 60)), .inl 0] σ = some (1, 0, σ) := by
  rw [ez_205, h]
  show (Option.bind (zev (d + 2) 149 _ σ) _) = _
  rw [F149, zbs]
  show (if (if zrg (Int64.toInt 0) 0 (Int32.toInt64 (((1 : Int32) <<< ((0 : Int32) &&& 31)) - 1)).toInt then (1 : Int32) else 0) = 0 then _ else _) = _
  rw [if_neg (by decide)]
  show (Option.bind (zev (d + 2) 204 _ σ) _) = _
  rw [ez_204]
  show (Option.bind (zrun _ _ _ _ _ σ) _) = _
  rw [ez_204_4, if_pos rfl, zbs, if_pos (show (0 : Int32) < 5 by decide), zg31]
theorem zp_110 (p0 p1 : Int32) : zcK 110 208 [.inl p0, .inl p1] := by
  by_cases hp : p0 = 0
  · subst hp
    by_cases h : zrg 0 p1 3
    · obtain ⟨n, hn, rfl⟩ := zrg_nat (l := 0) (h := 3) h
      exact zcq (zpc_110 n hn) (zpm_110 n hn) (zAi (zAi zA0)) (zAi (zAi zA0))
    · refine ⟨-1, fun τ hτ => ?_, fun τ hτ => ?_⟩
      · have c : τ.1 0 15 0 = 0 := zRc hτ 0 15 0 (by decide)
        rw [ez_110]
        simp only [F114_0 c, F141, zk_0, zl_0, zk_1, zl_1, zk_2, zl_2, zk_3, zl_3, zk_4, zl_4, zk_5, zl_5, zk_6, zl_6, zk_8, zl_8, zk_9, zl_9, zk_10, zl_10, zk_14, zl_14, zk_20, zl_20, zk_40, zl_40, zk_60, zl_60, zk_200, zl_200, zk_999, zl_999, zk_m1, zl_m1, if_neg h, zbs, zi10, if_true, if_false]
        exact ⟨_, _, _, rfl, rfl⟩
      · have c : τ.1 0 61 2 = 0 := zRmm hτ 0 61 2 (by decide)
        rw [ez_208]
        simp only [F205_0 c, F149, zk_0, zl_0, zk_1, zl_1, zk_2, zl_2, zk_3, zl_3, zk_4, zl_4, zk_5, zl_5, zk_6, zl_6, zk_8, zl_8, zk_9, zl_9, zk_10, zl_10, zk_14, zl_14, zk_20, zl_20, zk_40, zl_40, zk_60, zl_60, zk_200, zl_200, zk_999, zl_999, zk_m1, zl_m1, if_neg h, zbs, zi10, if_true, if_false]
        exact ⟨_, _, _, rfl, rfl⟩
  · refine ⟨-1, fun τ hτ => ?_, fun τ hτ => ?_⟩
    · have c : τ.1 0 15 0 = 0 := zRc hτ 0 15 0 (by decide)
      rw [ez_110]
      simp only [F114_n c hp, zbs, if_true]
      exact ⟨_, _, _, rfl, rfl⟩
    · have c : τ.1 0 61 2 = 0 := zRmm hτ 0 61 2 (by decide)
      rw [ez_208]
      simp only [F205_n c hp, zbs, if_true]
      exact ⟨_, _, _, rfl, rfl⟩
theorem zp_111 (p0 : Int32) : zcK 111 209 [.inl p0] := by
  by_cases hp : p0 = 0
  · subst hp
    exact zcq zpc_111 zpm_111 (zAi zA0) (zAi zA0)
  · refine ⟨-1, fun τ hτ => ?_, fun τ hτ => ?_⟩
    · have c : τ.1 0 15 0 = 0 := zRc hτ 0 15 0 (by decide)
      rw [ez_111]
      simp only [F114_n c hp, zbs, if_true]
      exact ⟨_, _, _, rfl, rfl⟩
    · have c : τ.1 0 61 2 = 0 := zRmm hτ 0 61 2 (by decide)
      rw [ez_209]
      simp only [F205_n c hp, zbs, if_true]
      exact ⟨_, _, _, rfl, rfl⟩
theorem zp_119 (p0 : Int32) : zcK 119 223 [.inl p0] := by
  refine ⟨1, fun τ hτ => ?_, fun τ hτ => ?_⟩
  · rw [ez_119]
    exact ⟨_, _, _, rfl, zRc hτ 0 0 3 (by decide)⟩
  · rw [ez_223]
    exact ⟨_, _, _, rfl, zRmm hτ 0 61 6 (by decide)⟩
theorem zp_88 (p0 p1 : Int32) : zcK 88 176 [.inl p0, .inl p1] := by
  by_cases h : zrg 0 p0 1
  · by_cases h2 : zrg 0 p1 9
    · refine ⟨0, fun τ hτ => ?_, fun τ hτ => ?_⟩
      · have c7 : τ.1 0 1 7 = 0 := zRc hτ 0 1 7 (by decide)
        have c8 : τ.1 0 1 8 = 0 := zRc hτ 0 1 8 (by decide)
        rw [ez_88]
        simp only [F141, zk_0, zl_0, zk_1, zl_1, zk_2, zl_2, zk_3, zl_3, zk_4, zl_4, zk_5, zl_5, zk_6, zl_6, zk_8, zl_8, zk_9, zl_9, zk_10, zl_10, zk_14, zl_14, zk_20, zl_20, zk_40, zl_40, zk_60, zl_60, zk_200, zl_200, zk_999, zl_999, zk_m1, zl_m1, if_pos h, if_pos h2, zbs, zi10, if_false, c7, c8, ez_88_48]
        rcases zrg01.mp h with rfl | rfl
        · simp only [if_true]
          exact ⟨_, _, _, rfl, rfl⟩
        · simp only [zi10, if_false]
          exact ⟨_, _, _, rfl, rfl⟩
      · rw [ez_176]
        simp only [F149, zk_0, zl_0, zk_1, zl_1, zk_2, zl_2, zk_3, zl_3, zk_4, zl_4, zk_5, zl_5, zk_6, zl_6, zk_8, zl_8, zk_9, zl_9, zk_10, zl_10, zk_14, zl_14, zk_20, zl_20, zk_40, zl_40, zk_60, zl_60, zk_200, zl_200, zk_999, zl_999, zk_m1, zl_m1, if_pos h, if_pos h2, zbs, zi10, if_false]
        rcases zrg01.mp h with rfl | rfl
        · refine zwp_gd (by decide) (zwp_gd (by decide) ?_)
          exact ⟨_, _, _, rfl, zRmm hτ 0 61 4 (by decide)⟩
        · refine zwp_gd (by decide) (zwp_gd (by decide) ?_)
          exact ⟨_, _, _, rfl, zRmm hτ 0 61 5 (by decide)⟩
    · refine ⟨-1, fun τ hτ => ?_, fun τ hτ => ?_⟩
      · rw [ez_88]
        simp only [F141, zk_0, zl_0, zk_1, zl_1, zk_2, zl_2, zk_3, zl_3, zk_4, zl_4, zk_5, zl_5, zk_6, zl_6, zk_8, zl_8, zk_9, zl_9, zk_10, zl_10, zk_14, zl_14, zk_20, zl_20, zk_40, zl_40, zk_60, zl_60, zk_200, zl_200, zk_999, zl_999, zk_m1, zl_m1, if_pos h, if_neg h2, zbs, zi10, if_true, if_false]
        exact ⟨_, _, _, rfl, rfl⟩
      · rw [ez_176]
        simp only [F149, zk_0, zl_0, zk_1, zl_1, zk_2, zl_2, zk_3, zl_3, zk_4, zl_4, zk_5, zl_5, zk_6, zl_6, zk_8, zl_8, zk_9, zl_9, zk_10, zl_10, zk_14, zl_14, zk_20, zl_20, zk_40, zl_40, zk_60, zl_60, zk_200, zl_200, zk_999, zl_999, zk_m1, zl_m1, if_pos h, if_neg h2, zbs, zi10, if_true, if_false]
        exact ⟨_, _, _, rfl, rfl⟩
  · refine ⟨-1, fun τ hτ => ?_, fun τ hτ => ?_⟩
    · rw [ez_88]
      simp only [F141, zk_0, zl_0, zk_1, zl_1, zk_2, zl_2, zk_3, zl_3, zk_4, zl_4, zk_5, zl_5, zk_6, zl_6, zk_8, zl_8, zk_9, zl_9, zk_10, zl_10, zk_14, zl_14, zk_20, zl_20, zk_40, zl_40, zk_60, zl_60, zk_200, zl_200, zk_999, zl_999, zk_m1, zl_m1, if_neg h, zbs, if_true]
      exact ⟨_, _, _, rfl, rfl⟩
    · rw [ez_176]
      simp only [F149, zk_0, zl_0, zk_1, zl_1, zk_2, zl_2, zk_3, zl_3, zk_4, zl_4, zk_5, zl_5, zk_6, zl_6, zk_8, zl_8, zk_9, zl_9, zk_10, zl_10, zk_14, zl_14, zk_20, zl_20, zk_40, zl_40, zk_60, zl_60, zk_200, zl_200, zk_999, zl_999, zk_m1, zl_m1, if_neg h, zbs, if_true]
      exact ⟨_, _, _, rfl, rfl⟩
theorem F36_0 {d : Nat} {p q : Int32} {σ : zM} (h : σ.1 0 15 0 = 0) : ∃ τ, zev (d + 1) 36 [.inr (.inr (0, 15)), .inl p, .inl q] σ = some (0, 0, τ) := by
  rw [ez_36, h]
  show ∃ τ, zgd (zin 0 8) _ = _
  have z : zin 0 8 = true := by decide
  rw [zgd_t z, zgd_t z, zgd_t z]
  exact ⟨_, rfl⟩
theorem zp_91 (p0 p1 : Int32) : zcK 91 181 [.inl p0, .inl p1] := by
  by_cases h : zrg 1 p0 200
  · by_cases h2 : zrg 0 p1 1
    · refine ⟨0, fun τ hτ => ?_, fun τ hτ => ?_⟩
      · have c : τ.1 0 15 0 = 0 := zRc hτ 0 15 0 (by decide)
        obtain ⟨τ2, e⟩ := F36_0 (d := 62) (p := p0) (q := p1) c
        rw [ez_91]
        simp only [F141, F143, zk_0, zl_0, zk_1, zl_1, zk_2, zl_2, zk_3, zl_3, zk_4, zl_4, zk_5, zl_5, zk_6, zl_6, zk_8, zl_8, zk_9, zl_9, zk_10, zl_10, zk_14, zl_14, zk_20, zl_20, zk_40, zl_40, zk_60, zl_60, zk_200, zl_200, zk_999, zl_999, zk_m1, zl_m1, if_pos h, if_pos h2, zbs, zi10, if_false, c]
        rw [if_pos (by decide), e, zbs]
        exact ⟨_, _, _, rfl, rfl⟩
      · have c : τ.1 0 61 2 = 0 := zRmm hτ 0 61 2 (by decide)
        rw [ez_181]
        simp only [F149, zk_0, zl_0, zk_1, zl_1, zk_2, zl_2, zk_3, zl_3, zk_4, zl_4, zk_5, zl_5, zk_6, zl_6, zk_8, zl_8, zk_9, zl_9, zk_10, zl_10, zk_14, zl_14, zk_20, zl_20, zk_40, zl_40, zk_60, zl_60, zk_200, zl_200, zk_999, zl_999, zk_m1, zl_m1, if_pos h, if_pos h2, zbs, zi10, if_false, c, ez_177]
        rw [if_neg (by decide)]
        refine zwp_gd (by decide) (zwp_gd (by decide) (zwp_gd (by decide) ?_))
        exact ⟨_, _, _, rfl, rfl⟩
    · refine ⟨-1, fun τ hτ => ?_, fun τ hτ => ?_⟩
      · rw [ez_91]
        simp only [F141, F143, zk_0, zl_0, zk_1, zl_1, zk_2, zl_2, zk_3, zl_3, zk_4, zl_4, zk_5, zl_5, zk_6, zl_6, zk_8, zl_8, zk_9, zl_9, zk_10, zl_10, zk_14, zl_14, zk_20, zl_20, zk_40, zl_40, zk_60, zl_60, zk_200, zl_200, zk_999, zl_999, zk_m1, zl_m1, if_pos h, if_neg h2, zbs, zi10, if_true, if_false]
        exact ⟨_, _, _, rfl, rfl⟩
      · rw [ez_181]
        simp only [F149, zk_0, zl_0, zk_1, zl_1, zk_2, zl_2, zk_3, zl_3, zk_4, zl_4, zk_5, zl_5, zk_6, zl_6, zk_8, zl_8, zk_9, zl_9, zk_10, zl_10, zk_14, zl_14, zk_20, zl_20, zk_40, zl_40, zk_60, zl_60, zk_200, zl_200, zk_999, zl_999, zk_m1, zl_m1, if_pos h, if_neg h2, zbs, zi10, if_true, if_false]
        exact ⟨_, _, _, rfl, rfl⟩
  · refine ⟨-1, fun τ hτ => ?_, fun τ hτ => ?_⟩
    · rw [ez_91]
      simp only [F141, zk_0, zl_0, zk_1, zl_1, zk_2, zl_2, zk_3, zl_3, zk_4, zl_4, zk_5, zl_5, zk_6, zl_6, zk_8, zl_8, zk_9, zl_9, zk_10, zl_10, zk_14, zl_14, zk_20, zl_20, zk_40, zl_40, zk_60, zl_60, zk_200, zl_200, zk_999, zl_999, zk_m1, zl_m1, if_neg h, zbs, if_true]
      exact ⟨_, _, _, rfl, rfl⟩
    · rw [ez_181]
      simp only [F149, zk_0, zl_0, zk_1, zl_1, zk_2, zl_2, zk_3, zl_3, zk_4, zl_4, zk_5, zl_5, zk_6, zl_6, zk_8, zl_8, zk_9, zl_9, zk_10, zl_10, zk_14, zl_14, zk_20, zl_20, zk_40, zl_40, zk_60, zl_60, zk_200, zl_200, zk_999, zl_999, zk_m1, zl_m1, if_neg h, zbs, if_true]
      exact ⟨_, _, _, rfl, rfl⟩
theorem F12_0 {d : Nat} {k l n : Int32} {σ : zM} (h : σ.1 0 1 0 = 0) : ∃ τ, zev (d + 2) 12 [.inr (.inr (0, 1)), .inl k, .inl (-9), .inl l, .inl n] σ = some (0, 0, τ) := by
  rw [ez_12]
  show ∃ τ, zgd _ _ = _
  rw [h]
  have z : zin 0 9 = true := by decide
  rw [zgd_t z, zgd_t z, zgd_t z, zgd_t z]
  show ∃ τ, Option.bind (zev (d + 1) 13 _ _) _ = _
  rw [F13_0 (show (zwI (zwI (zwI (zwI σ 0 2 (Int32.toNatClampNeg 0) k) 0 3 (Int32.toNatClampNeg 0) (-9)) 0 4 (Int32.toNatClampNeg 0) l) 0 5 (Int32.toNatClampNeg 0) n).1 0 1 0 = 0 from h), zbs, if_pos rfl, zgd_t z]
  exact ⟨_, rfl⟩
theorem zp_84 (p0 p1 p2 p3 : Int32) : zcK 84 160 [.inl p0, .inl p1, .inl p2, .inl p3] := by
  by_cases h : zrg 1 p0 5 ∧ p1 = -1 ∧ zrg 1 p2 9 ∧ zrg 1 p3 999
  · obtain ⟨h0, rfl, h2, h3⟩ := h
    have ne : ((-1 : Int32) = 0) = False := eq_false (by decide)
    refine ⟨0, fun τ hτ => ?_, fun τ hτ => ?_⟩
    · have c : τ.1 0 1 0 = 0 := zRc hτ 0 1 0 (by decide)
      obtain ⟨τ2, e⟩ := F12_0 (d := 61) (k := p0) (l := p2) (n := p3) c
      rw [ez_84]
      simp only [if_true, ez_84_10, F142, if_pos h0, zbs, zi10, if_false, ez_84_40, F141, zk_0, zl_0, zk_1, zl_1, zk_2, zl_2, zk_3, zl_3, zk_4, zl_4, zk_5, zl_5, zk_6, zl_6, zk_8, zl_8, zk_9, zl_9, zk_10, zl_10, zk_14, zl_14, zk_20, zl_20, zk_40, zl_40, zk_60, zl_60, zk_200, zl_200, zk_999, zl_999, zk_m1, zl_m1, if_pos h2, if_pos h3, c]
      rw [if_pos (by decide), e, zbs]
      exact ⟨_, _, _, rfl, rfl⟩
    · have c : τ.1 0 61 0 = 0 := zRmm hτ 0 61 0 (by decide)
      have o2 : ((2 : Int32) = 2 ∧ zrg 1 p2 9 ∨ (2 : Int32) = 3 ∧ zrg 1 p2 999) := Or.inl ⟨rfl, h2⟩
      have o3 : ((3 : Int32) = 2 ∧ zrg 1 p3 9 ∨ (3 : Int32) = 3 ∧ zrg 1 p3 999) := Or.inr ⟨rfl, h3⟩
      rw [ez_160]
      simp only [F149, zk_0, zl_0, zk_1, zl_1, zk_2, zl_2, zk_3, zl_3, zk_4, zl_4, zk_5, zl_5, zk_6, zl_6, zk_8, zl_8, zk_9, zl_9, zk_10, zl_10, zk_14, zl_14, zk_20, zl_20, zk_40, zl_40, zk_60, zl_60, zk_200, zl_200, zk_999, zl_999, zk_m1, zl_m1, if_pos h0, zbs, zi10, if_true, if_false, ez_160_25, F159]
      rw [if_pos (show (True ∧ zrg 1 p2 9 ∨ (2 : Int32) = 3 ∧ zrg 1 p2 999) from Or.inl ⟨trivial, h2⟩), if_neg (by decide), if_pos (show ((3 : Int32) = 2 ∧ zrg 1 p3 9 ∨ True ∧ zrg 1 p3 999) from Or.inr ⟨trivial, h3⟩), if_neg (by decide), c, if_neg (by decide), if_pos (by decide), ez_160_73]
      simp only [ez_155, zbs, c]
      refine zwp_gd (by decide) (zwp_gd (by decide) (zwp_gd (by decide) (zwp_gd (by decide) (zwp_gd (by decide) ?_))))
      exact ⟨_, _, _, rfl, rfl⟩
  · refine ⟨-1, fun τ hτ => ?_, fun τ hτ => ?_⟩
    · have c : τ.1 0 1 0 = 0 := zRc hτ 0 1 0 (by decide)
      rw [ez_84]
      by_cases h1 : p1 = -1
      · subst h1
        simp only [if_true, ez_84_10, F142, zbs, zif0, zi10, if_false, ez_84_40, F141, zk_0, zl_0, zk_1, zl_1, zk_2, zl_2, zk_3, zl_3, zk_4, zl_4, zk_5, zl_5, zk_6, zl_6, zk_8, zl_8, zk_9, zl_9, zk_10, zl_10, zk_14, zl_14, zk_20, zl_20, zk_40, zl_40, zk_60, zl_60, zk_200, zl_200, zk_999, zl_999, zk_m1, zl_m1]
        refine zwp_ite (fun q0 => zwp_ite (fun q2 => zwp_ite (fun q3 => absurd ⟨q0, rfl, q2, q3⟩ h) (fun _ => ?_)) (fun _ => ?_)) (fun _ => ?_)
        all_goals exact ⟨_, _, _, rfl, rfl⟩
      · simp only [if_neg h1, if_true, ez_84_10, F142, F13_0 c, zbs, zif0]
        refine zwp_ite (fun q0 => ?_) (fun _ => ?_)
        all_goals exact ⟨_, _, _, rfl, rfl⟩
    · have c : τ.1 0 61 0 = 0 := zRmm hτ 0 61 0 (by decide)
      have o2 : ∀ v, ((2 : Int32) = 2 ∧ zrg 1 v 9 ∨ (2 : Int32) = 3 ∧ zrg 1 v 999) = zrg 1 v 9 := fun v => propext ⟨fun o => o.elim (fun o => o.2) (fun o => absurd o.1 (by decide)), fun o => Or.inl ⟨rfl, o⟩⟩
      have o3 : ∀ v, ((3 : Int32) = 2 ∧ zrg 1 v 9 ∨ (3 : Int32) = 3 ∧ zrg 1 v 999) = zrg 1 v 999 := fun v => propext ⟨fun o => o.elim (fun o => absurd o.1 (by decide)) (fun o => o.2), fun o => Or.inr ⟨rfl, o⟩⟩
      rw [ez_160]
      by_cases h1 : p1 = -1
      · subst h1
        simp only [F149, zk_0, zl_0, zk_1, zl_1, zk_2, zl_2, zk_3, zl_3, zk_4, zl_4, zk_5, zl_5, zk_6, zl_6, zk_8, zl_8, zk_9, zl_9, zk_10, zl_10, zk_14, zl_14, zk_20, zl_20, zk_40, zl_40, zk_60, zl_60, zk_200, zl_200, zk_999, zl_999, zk_m1, zl_m1, zbs, zif0, if_true, ez_160_25, F159, o2, o3]
        refine zwp_ite (fun q0 => zwp_ite (fun q2 => zwp_ite (fun q3 => absurd ⟨q0, rfl, q2.elim (fun z => z.2) (fun z => absurd z.1 (by decide)), q3.elim (fun z => absurd z.1 (by decide)) (fun z => z.2)⟩ h) (fun _ => ?_)) (fun _ => ?_)) (fun _ => ?_)
        all_goals exact ⟨_, _, _, rfl, rfl⟩
      · simp only [F149, zk_0, zl_0, zk_1, zl_1, zk_2, zl_2, zk_3, zl_3, zk_4, zl_4, zk_5, zl_5, zk_6, zl_6, zk_8, zl_8, zk_9, zl_9, zk_10, zl_10, zk_14, zl_14, zk_20, zl_20, zk_40, zl_40, zk_60, zl_60, zk_200, zl_200, zk_999, zl_999, zk_m1, zl_m1, if_neg h1, F150_0 c, zbs, zif0, if_true]
        refine zwp_ite (fun q0 => ?_) (fun _ => ?_)
        all_goals exact ⟨_, _, _, rfl, rfl⟩
theorem zp_129 (p0 p1 p2 : Int32) : zcK 129 252 [.inl p0, .inl p1, .inl p2] := by
  by_cases h : zrg 0 p0 3
  · refine ⟨-11, fun τ hτ => ?_, fun τ hτ => ?_⟩
    · have c : τ.1 0 42 (Int32.toNatClampNeg p0) = -1 := zRc hτ 0 42 _ (by decide)
      rw [ez_129]
      simp only [F144, if_pos h, zbs, zi10, if_false, c, if_true]
      exact zwp_gd (zin_rg h) ⟨_, _, _, rfl, rfl⟩
    · have c : τ.1 0 73 (Int32.toNatClampNeg p0) = -1 := zRmm hτ 0 73 _ (by decide)
      rw [ez_252]
      simp only [F249, if_pos h, zbs, zi10, if_false, c]
      exact zwp_gd (zin_rg h) (zwp_ite (fun _ => ⟨_, _, _, rfl, rfl⟩) (fun q => absurd (by decide) q))
  · refine ⟨-1, fun τ hτ => ?_, fun τ hτ => ?_⟩
    · rw [ez_129]
      simp only [F144, if_neg h, zbs, if_true]
      exact ⟨_, _, _, rfl, rfl⟩
    · rw [ez_252]
      simp only [F249, if_neg h, zbs, if_true]
      exact ⟨_, _, _, rfl, rfl⟩
theorem F18_0 {d : Nat} {p q : Int32} {σ : zM} (hp : zrg 0 p 3) (h : σ.1 0 42 (Int32.toNatClampNeg p) = -1) : zev (d + 1) 18 [.inr (.inr (0, 41)), .inl p, .inl q] σ = some (-11, 0, σ) := by
  rw [ez_18]
  show (zgd _ _) = _
  rw [zgd_t (zin_rg hp), h, if_pos rfl]
theorem F253_0 {d : Nat} {p q : Int32} {σ : zM} (hp : zrg 0 p 3) (h : σ.1 0 73 (Int32.toNatClampNeg p) = -1) : zev (d + 1) 253 [.inr (.inr (0, 60)), .inl p, .inl q] σ = some (-11, 0, σ) := by
  rw [ez_253]
  show (zgd _ _) = _
  rw [zgd_t (zin_rg hp), h, if_pos (by decide)]
theorem zi110 : ((-11 : Int32) = 0) = False := eq_false (by decide)
theorem zp_130 (p0 p1 p2 : Int32) : zcK 130 254 [.inl p0, .inl p1, .inl p2] := by
  by_cases h : zrg 0 p0 3
  · by_cases h2 : zrg 0 p1 4
    · refine ⟨-11, fun τ hτ => ?_, fun τ hτ => ?_⟩
      · have c : τ.1 0 42 (Int32.toNatClampNeg p0) = -1 := zRc hτ 0 42 _ (by decide)
        rw [ez_130]
        simp only [F144, F141, zk_0, zl_0, zk_1, zl_1, zk_2, zl_2, zk_3, zl_3, zk_4, zl_4, zk_5, zl_5, zk_6, zl_6, zk_8, zl_8, zk_9, zl_9, zk_10, zl_10, zk_14, zl_14, zk_20, zl_20, zk_40, zl_40, zk_60, zl_60, zk_200, zl_200, zk_999, zl_999, zk_m1, zl_m1, if_pos h, if_pos h2, F18_0 h c, zi110, zbs, zi10, if_false]
        exact ⟨_, _, _, rfl, rfl⟩
      · have c : τ.1 0 73 (Int32.toNatClampNeg p0) = -1 := zRmm hτ 0 73 _ (by decide)
        rw [ez_254]
        simp only [F249, F149, zk_0, zl_0, zk_1, zl_1, zk_2, zl_2, zk_3, zl_3, zk_4, zl_4, zk_5, zl_5, zk_6, zl_6, zk_8, zl_8, zk_9, zl_9, zk_10, zl_10, zk_14, zl_14, zk_20, zl_20, zk_40, zl_40, zk_60, zl_60, zk_200, zl_200, zk_999, zl_999, zk_m1, zl_m1, if_pos h, if_pos h2, F253_0 h c, zi110, zbs, zi10, if_false]
        exact ⟨_, _, _, rfl, rfl⟩
    · refine ⟨-1, fun τ hτ => ?_, fun τ hτ => ?_⟩
      · rw [ez_130]
        simp only [F144, F141, zk_0, zl_0, zk_1, zl_1, zk_2, zl_2, zk_3, zl_3, zk_4, zl_4, zk_5, zl_5, zk_6, zl_6, zk_8, zl_8, zk_9, zl_9, zk_10, zl_10, zk_14, zl_14, zk_20, zl_20, zk_40, zl_40, zk_60, zl_60, zk_200, zl_200, zk_999, zl_999, zk_m1, zl_m1, if_pos h, if_neg h2, zbs, zi10, if_true, if_false]
        exact ⟨_, _, _, rfl, rfl⟩
      · rw [ez_254]
        simp only [F249, F149, zk_0, zl_0, zk_1, zl_1, zk_2, zl_2, zk_3, zl_3, zk_4, zl_4, zk_5, zl_5, zk_6, zl_6, zk_8, zl_8, zk_9, zl_9, zk_10, zl_10, zk_14, zl_14, zk_20, zl_20, zk_40, zl_40, zk_60, zl_60, zk_200, zl_200, zk_999, zl_999, zk_m1, zl_m1, if_pos h, if_neg h2, zbs, zi10, if_true, if_false]
        exact ⟨_, _, _, rfl, rfl⟩
  · refine ⟨-1, fun τ hτ => ?_, fun τ hτ => ?_⟩
    · rw [ez_130]
      simp only [F144, if_neg h, zbs, if_true]
      exact ⟨_, _, _, rfl, rfl⟩
    · rw [ez_254]
      simp only [F249, if_neg h, zbs, if_true]
      exact ⟨_, _, _, rfl, rfl⟩
theorem zp_135 (p0 : Int32) : zcK 135 267 [.inl p0] := by
  refine ⟨-3, fun τ hτ => ?_, fun τ hτ => ?_⟩
  · have c : τ.1 0 49 0 = 0 := zRc hτ 0 49 0 (by decide)
    have z : (0 - 1 : Int32).toInt = -1 := by decide
    have n : ¬ zrg 0 p0 (-1) := fun q => by have := q.1; have := q.2; omega
    rw [ez_135]
    simp only [F141, c, z, zk_0, zl_0, zk_1, zl_1, zk_2, zl_2, zk_3, zl_3, zk_4, zl_4, zk_5, zl_5, zk_6, zl_6, zk_8, zl_8, zk_9, zl_9, zk_10, zl_10, zk_14, zl_14, zk_20, zl_20, zk_40, zl_40, zk_60, zl_60, zk_200, zl_200, zk_999, zl_999, zk_m1, zl_m1, if_neg n, zbs, if_true]
    exact ⟨_, _, _, rfl, rfl⟩
  · have c : τ.1 0 60 32 = 0 := zRmm hτ 0 60 32 (by decide)
    rw [ez_267]
    simp only [ez_266, c]
    rw [if_pos (by decide)]
    simp only [zbs, F149_n rfl, if_true]
    exact ⟨_, _, _, rfl, rfl⟩
theorem zp_133 (p0 p1 : Int32) : zcK 133 258 [.inl p0, .inl p1] := by
  by_cases h : zrg 0 p0 3
  · by_cases h2 : zrg 0 p1 5 ∨ zrg 10 p1 14
    · refine ⟨-11, fun τ hτ => ?_, fun τ hτ => ?_⟩
      · have c : τ.1 0 46 (Int32.toNatClampNeg p0) = 0 := zRc hτ 0 46 _ (by decide)
        rw [ez_133]
        simp only [F141, F144, zk_0, zl_0, zk_1, zl_1, zk_2, zl_2, zk_3, zl_3, zk_4, zl_4, zk_5, zl_5, zk_6, zl_6, zk_8, zl_8, zk_9, zl_9, zk_10, zl_10, zk_14, zl_14, zk_20, zl_20, zk_40, zl_40, zk_60, zl_60, zk_200, zl_200, zk_999, zl_999, zk_m1, zl_m1, if_pos h, zbs, zi10, if_false, zif0, ez_133_31, F24_0 h c, F137_0 h c, if_true]
        refine zwp_ite (fun _ => ?_) (fun q0 => zwp_ite (fun _ => ?_) (fun q1 => absurd h2 (fun o => o.elim q0 q1)))
        all_goals exact ⟨_, _, _, rfl, rfl⟩
      · have c : τ.1 0 76 (Int32.toNatClampNeg p0) = 0 := zRmm hτ 0 76 _ (by decide)
        have l1 : ((-1 : Int32) < 0) = True := eq_true (by decide)
        have l2 : ((0 : Int32) < 2) = True := eq_true (by decide)
        rw [ez_258]
        simp only [F249, F149, zk_0, zl_0, zk_1, zl_1, zk_2, zl_2, zk_3, zl_3, zk_4, zl_4, zk_5, zl_5, zk_6, zl_6, zk_8, zl_8, zk_9, zl_9, zk_10, zl_10, zk_14, zl_14, zk_20, zl_20, zk_40, zl_40, zk_60, zl_60, zk_200, zl_200, zk_999, zl_999, zk_m1, zl_m1, if_pos h, zbs, zi10, if_false, zif0, ez_258_35, F257_0 (fun _ => c), l1, l2, c, if_true]
        refine zwp_ite (fun _ => zwp_gd (zin_rg h) ?_) (fun q0 => zwp_ite (fun _ => zwp_gd (zin_rg h) ?_) (fun q1 => absurd h2 (fun o => o.elim q0 q1)))
        all_goals exact ⟨_, _, _, rfl, rfl⟩
    · have n1 : ¬ zrg 0 p1 5 := fun q => h2 (Or.inl q)
      have n2 : ¬ zrg 10 p1 14 := fun q => h2 (Or.inr q)
      refine ⟨-1, fun τ hτ => ?_, fun τ hτ => ?_⟩
      · rw [ez_133]
        simp only [F141, F144, zk_0, zl_0, zk_1, zl_1, zk_2, zl_2, zk_3, zl_3, zk_4, zl_4, zk_5, zl_5, zk_6, zl_6, zk_8, zl_8, zk_9, zl_9, zk_10, zl_10, zk_14, zl_14, zk_20, zl_20, zk_40, zl_40, zk_60, zl_60, zk_200, zl_200, zk_999, zl_999, zk_m1, zl_m1, if_pos h, if_neg n1, if_neg n2, zbs, zi10, if_true, if_false]
        exact ⟨_, _, _, rfl, rfl⟩
      · rw [ez_258]
        simp only [F249, F149, zk_0, zl_0, zk_1, zl_1, zk_2, zl_2, zk_3, zl_3, zk_4, zl_4, zk_5, zl_5, zk_6, zl_6, zk_8, zl_8, zk_9, zl_9, zk_10, zl_10, zk_14, zl_14, zk_20, zl_20, zk_40, zl_40, zk_60, zl_60, zk_200, zl_200, zk_999, zl_999, zk_m1, zl_m1, if_pos h, if_neg n1, if_neg n2, zbs, zi10, if_true, if_false]
        exact ⟨_, _, _, rfl, rfl⟩
  · refine ⟨-1, fun τ hτ => ?_, fun τ hτ => ?_⟩
    · rw [ez_133]
      simp only [F141, F144, zk_0, zl_0, zk_1, zl_1, zk_2, zl_2, zk_3, zl_3, zk_4, zl_4, zk_5, zl_5, zk_6, zl_6, zk_8, zl_8, zk_9, zl_9, zk_10, zl_10, zk_14, zl_14, zk_20, zl_20, zk_40, zl_40, zk_60, zl_60, zk_200, zl_200, zk_999, zl_999, zk_m1, zl_m1, if_neg h, zbs, if_true]
      exact ⟨_, _, _, rfl, rfl⟩
    · rw [ez_258]
      simp only [F249, if_neg h, zbs, if_true]
      exact ⟨_, _, _, rfl, rfl⟩
theorem zp_134 (p0 p1 p2 : Int32) : zcK 134 265 [.inl p0, .inl p1, .inl p2] := by
  refine ⟨0, fun τ hτ => ?_, fun τ hτ => ?_⟩
  · rw [ez_134]
    by_cases h : zrg 0 p0 3
    · have c : (zwI τ 0 49 0 0).1 0 46 (Int32.toNatClampNeg p0) = 0 := zRc hτ 0 46 _ (by decide)
      by_cases h2 : zrg 0 p1 3
      · simp only [F144, F141, zk_0, zl_0, zk_1, zl_1, zk_2, zl_2, zk_3, zl_3, zk_4, zl_4, zk_5, zl_5, zk_6, zl_6, zk_8, zl_8, zk_9, zl_9, zk_10, zl_10, zk_14, zl_14, zk_20, zl_20, zk_40, zl_40, zk_60, zl_60, zk_200, zl_200, zk_999, zl_999, zk_m1, zl_m1, if_pos h, if_pos h2, F137_0 h c, zbs, zi10, if_false, if_true]
        exact ⟨_, _, _, rfl, rfl⟩
      · simp only [F144, F141, zk_0, zl_0, zk_1, zl_1, zk_2, zl_2, zk_3, zl_3, zk_4, zl_4, zk_5, zl_5, zk_6, zl_6, zk_8, zl_8, zk_9, zl_9, zk_10, zl_10, zk_14, zl_14, zk_20, zl_20, zk_40, zl_40, zk_60, zl_60, zk_200, zl_200, zk_999, zl_999, zk_m1, zl_m1, if_pos h, if_neg h2, zbs, zi10, if_false, if_true]
        exact ⟨_, _, _, rfl, rfl⟩
    · simp only [F144, if_neg h, zbs, if_true]
      exact ⟨_, _, _, rfl, rfl⟩
  · have l1 : ((-1 : Int32) < 0) = True := eq_true (by decide)
    have c : ∀ i, (zwI (zwI τ 0 60 32 0) 0 60 36 0).1 0 76 i = 0 := fun i => zRmm hτ 0 76 i (by decide)
    have e : ∀ σ : zM, (zwI σ 0 60 33 (-1)).1 0 60 33 = -1 := fun σ => by
      show (if (0 : Nat) = 0 ∧ (60 : Nat) = 60 ∧ (33 : Nat) = 33 then (-1 : Int32) else σ.1 0 60 33) = -1
      exact if_pos ⟨rfl, rfl, rfl⟩
    rw [ez_265]
    refine zwp_gd (by decide) ?_
    simp only [F257_0 (fun _ => c _), zbs, e, l1, if_true]
    exact ⟨_, _, _, rfl, rfl⟩
theorem F20_0 {d : Nat} {p q : Int32} {σ : zM} (hp : zrg 0 p 3) : ∃ τ, zev (d + 1) 20 [.inr (.inr (0, 41)), .inl p, .inl q] σ = some (0, 0, τ) := by
  rw [ez_20]
  show ∃ τ, zgd _ _ = _
  rw [zgd_t (zin_rg hp), zgd_t (zin_rg hp)]
  exact ⟨_, rfl⟩
theorem F21_0 {d : Nat} {p q : Int32} {σ : zM} (hp : zrg 0 p 3) (hq : zrg 0 q 3) : ∃ τ, zev (d + 1) 21 [.inr (.inr (0, 41)), .inl p, .inl q] σ = some (0, 0, τ) := by
  rw [ez_21]
  show ∃ τ, zgd _ _ = _
  rw [zgd_t (zin_rg hq)]
  simp only [ez_21_20, zgd_t (zin_rg (n := 4) hp), zgd_t (zin_rg (n := 4) hq)]
  by_cases h : σ.1 0 42 (Int32.toNatClampNeg q) = -1
  · rw [if_pos h]; exact ⟨_, rfl⟩
  · rw [if_neg h]; exact ⟨_, rfl⟩
theorem F22_0 {d : Nat} {p : Int32} {σ : zM} (hp : zrg 0 p 3) : ∃ τ, zev (d + 1) 22 [.inr (.inr (0, 41)), .inl p] σ = some (0, 0, τ) := by
  rw [ez_22]
  show ∃ τ, zgd _ _ = _
  rw [zgd_t (zin_rg hp)]
  exact ⟨_, rfl⟩
theorem F256_45 {d : Nat} {a b c : Int32} {σ : zM} (ha : zrg 0 a 3) (hc : b = 1 → zrg 0 c 3) : zwp (zrun (zev d) zT_256 45 [some (.inr (.inr (0, 60))), some (.inl a), some (.inl b), some (.inl c)] [] σ) (fun v _ _ => v = 1) := by
  have g : ∀ (s0 s1 : Int32) (τ : zM), s1 = a → zwp (zrun (zev d) zT_256 77 [some (.inr (.inr (0, 60))), some (.inl a), some (.inl b), some (.inl c)] [.inl s0, .inl s1, .inr (.inr (0, 76))] τ) (fun v _ _ => v = 1) := by
    intro s0 s1 τ e
    subst e
    rw [ez_256_77]
    have g2 : ∀ (t0 t1 : Int32) (τ : zM), t1 = s1 → zwp (zrun (zev d) zT_256 106 [some (.inr (.inr (0, 60))), some (.inl s1), some (.inl b), some (.inl c)] [.inl t0, .inl t1, .inr (.inr (0, 77))] τ) (fun v _ _ => v = 1) := by
      intro t0 t1 τ e
      subst e
      rw [ez_256_106]
      refine zwp_gd (zin_rg ha) (zwp_ite (fun q => zwp_gd (zin_rg (hc q)) (zwp_gd (zin_rg ha) ⟨_, _, _, rfl, rfl⟩)) (fun _ => zwp_gd (zin_rg ha) ⟨_, _, _, rfl, rfl⟩))
    exact zwp_gd (zin_rg ha) (zwp_ite (fun _ => g2 _ _ _ rfl) (fun _ => zwp_ite (fun q => zwp_gd (zin_rg (hc q)) (g2 _ _ _ rfl)) (fun _ => g2 _ _ _ rfl)))
  rw [ez_256_45]
  refine zwp_ite (fun _ => g _ _ _ rfl) (fun _ => zwp_ite (fun q => zwp_gd (zin_rg (hc q)) (zwp_ite (fun _ => ?_) (fun _ => g _ _ _ rfl))) (fun _ => ?_))
  · rw [ez_256_76]; exact g _ _ _ rfl
  · rw [ez_256_76]; exact g _ _ _ rfl
theorem zp_132 (p0 p1 p2 : Int32) : zcK 132 256 [.inl p0, .inl p1, .inl p2] := by
  have z21 : ((2 : Int32) = 0) = False := eq_false (by decide)
  have z22 : ((2 : Int32) = 1) = False := eq_false (by decide)
  have r2 : zrg 0 (2 : Int32) 2 := by decide
  have r1 : zrg 0 (1 : Int32) 2 := by decide
  have r0 : zrg 0 (0 : Int32) 2 := by decide
  by_cases h : zrg 0 p0 3
  · by_cases h0 : p1 = 0
    · subst h0
      refine ⟨-1, fun τ hτ => ?_, fun τ hτ => ?_⟩
      · have c : τ.1 0 1 0 = 0 := zRc hτ 0 1 0 (by decide)
        rw [ez_132]
        simp only [F144, if_pos h, F13_0 c, zbs, zi10, if_true, if_false]
        exact ⟨_, _, _, rfl, rfl⟩
      · have c : τ.1 0 61 0 = 0 := zRmm hτ 0 61 0 (by decide)
        rw [ez_256]
        simp only [F249, F149, zk_0, zl_0, zk_1, zl_1, zk_2, zl_2, zk_3, zl_3, zk_4, zl_4, zk_5, zl_5, zk_6, zl_6, zk_8, zl_8, zk_9, zl_9, zk_10, zl_10, zk_14, zl_14, zk_20, zl_20, zk_40, zl_40, zk_60, zl_60, zk_200, zl_200, zk_999, zl_999, zk_m1, zl_m1, if_pos h, if_pos r0, F150_0 c, zbs, zi10, if_true, if_false]
        exact ⟨_, _, _, rfl, rfl⟩
    · by_cases h1 : p1 = 1
      · subst h1
        by_cases h2 : zrg 0 p2 3
        · refine ⟨1, fun τ hτ => ?_, fun τ hτ => ?_⟩
          · obtain ⟨τ2, e⟩ := F21_0 (d := 62) (σ := τ) h h2
            rw [ez_132]
            simp only [F144, if_pos h, if_pos h2, zbs, zi10, if_true, if_false]
            rw [e, zbs]
            exact ⟨_, _, _, rfl, rfl⟩
          · rw [ez_256]
            simp only [F249, F149, zk_0, zl_0, zk_1, zl_1, zk_2, zl_2, zk_3, zl_3, zk_4, zl_4, zk_5, zl_5, zk_6, zl_6, zk_8, zl_8, zk_9, zl_9, zk_10, zl_10, zk_14, zl_14, zk_20, zl_20, zk_40, zl_40, zk_60, zl_60, zk_200, zl_200, zk_999, zl_999, zk_m1, zl_m1, if_pos h, if_pos h2, if_pos r1, zbs, zi10, if_true, if_false, ez_256_31]
            exact F256_45 h (fun _ => h2)
        · refine ⟨-1, fun τ hτ => ?_, fun τ hτ => ?_⟩
          · rw [ez_132]
            simp only [F144, if_pos h, if_neg h2, zbs, zi10, if_true, if_false]
            exact ⟨_, _, _, rfl, rfl⟩
          · rw [ez_256]
            simp only [F249, F149, zk_0, zl_0, zk_1, zl_1, zk_2, zl_2, zk_3, zl_3, zk_4, zl_4, zk_5, zl_5, zk_6, zl_6, zk_8, zl_8, zk_9, zl_9, zk_10, zl_10, zk_14, zl_14, zk_20, zl_20, zk_40, zl_40, zk_60, zl_60, zk_200, zl_200, zk_999, zl_999, zk_m1, zl_m1, if_pos h, if_neg h2, if_pos r1, zbs, zi10, if_true, if_false, ez_256_31]
            exact ⟨_, _, _, rfl, rfl⟩
      · by_cases h2 : p1 = 2
        · subst h2
          refine ⟨1, fun τ hτ => ?_, fun τ hτ => ?_⟩
          · obtain ⟨τ2, e⟩ := F22_0 (d := 62) (σ := τ) h
            rw [ez_132]
            simp only [F144, if_pos h, zbs, zi10, z21, z22, if_true, if_false]
            rw [e, zbs]
            exact ⟨_, _, _, rfl, rfl⟩
          · rw [ez_256]
            simp only [F249, F149, zk_0, zl_0, zk_1, zl_1, zk_2, zl_2, zk_3, zl_3, zk_4, zl_4, zk_5, zl_5, zk_6, zl_6, zk_8, zl_8, zk_9, zl_9, zk_10, zl_10, zk_14, zl_14, zk_20, zl_20, zk_40, zl_40, zk_60, zl_60, zk_200, zl_200, zk_999, zl_999, zk_m1, zl_m1, if_pos h, if_pos r2, zbs, zi10, z21, z22, if_true, if_false, ez_256_31]
            exact F256_45 h (fun q => absurd q (by decide))
        · have n : ¬ zrg 0 p1 2 := fun q => by
              obtain ⟨n, hn, rfl⟩ := zrg_nat (l := 0) (h := 2) q
              rcases (by omega : n = 0 ∨ n = 1 ∨ n = 2) with rfl | rfl | rfl
              · exact h0 rfl
              · exact h1 rfl
              · exact h2 rfl
          refine ⟨-1, fun τ hτ => ?_, fun τ hτ => ?_⟩
          · rw [ez_132]
            simp only [F144, if_pos h, zbs, zi10, if_neg h0, if_neg h1, if_neg h2, if_false]
            exact ⟨_, _, _, rfl, rfl⟩
          · rw [ez_256]
            simp only [F249, F149, zk_0, zl_0, zk_1, zl_1, zk_2, zl_2, zk_3, zl_3, zk_4, zl_4, zk_5, zl_5, zk_6, zl_6, zk_8, zl_8, zk_9, zl_9, zk_10, zl_10, zk_14, zl_14, zk_20, zl_20, zk_40, zl_40, zk_60, zl_60, zk_200, zl_200, zk_999, zl_999, zk_m1, zl_m1, if_pos h, if_neg n, zbs, zi10, if_true, if_false]
            exact ⟨_, _, _, rfl, rfl⟩
  · refine ⟨-1, fun τ hτ => ?_, fun τ hτ => ?_⟩
    · rw [ez_132]
      simp only [F144, if_neg h, zbs, if_true]
      exact ⟨_, _, _, rfl, rfl⟩
    · rw [ez_256]
      simp only [F249, if_neg h, zbs, if_true]
      exact ⟨_, _, _, rfl, rfl⟩
/-- a loop counting up -/
theorem zk1 {i : Int32} {n : Nat} (h0 : 0 ≤ i.toInt) (h : i.toInt + n < 2 ^ 31) : (i + 1).toInt = i.toInt + 1 ∨ n = 0 := by
  rcases Nat.eq_zero_or_pos n with q | q
  · exact Or.inr q
  · refine Or.inl ?_
    rw [Int32.toInt_add, zk_1, Int.bmod_def]
    omega
theorem F17_17 {C : zC} {a : Int32} (ha : zrg 0 a 3) : ∀ (n : Nat) (i : Int32) (d2 d3 : Option zV) (σ : zM), 0 ≤ i.toInt → i.toInt + n = 40 → ∃ τ, zrun C zT_17 17 [some (.inr (.inr (0, 41))), some (.inl a), d2, d3, some (.inl i)] [] σ = some (0, 0, τ)
  | 0, i, d2, d3, σ, h0, h => by
    rw [ez_17_17, if_neg (by rw [zlt32, zk_40]; omega)]
    exact ⟨_, rfl⟩
  | n + 1, i, d2, d3, σ, h0, h => by
    have e1 : (i + 1).toInt = i.toInt + 1 := (zk1 (n := 1) h0 (by omega)).resolve_right (by decide)
    rw [ez_17_17, if_pos (by rw [zlt32, zk_40]; omega), zgd_t (zin_rg ha), zgd_t (zin_rg ⟨h0, by omega⟩)]
    exact F17_17 ha n (i + 1) none none _ (by omega) (by omega)
theorem F250_69 {C : zC} {a : Int32} (ha : zrg 0 a 3) : ∀ (n : Nat) (i : Int32) (d2 d3 : Option zV) (σ : zM), 0 ≤ i.toInt → i.toInt + n = 40 → ∃ τ, zrun C zT_250 69 [some (.inr (.inr (0, 60))), some (.inl a), d2, d3, some (.inl i)] [] σ = some (1, 0, τ)
  | 0, i, d2, d3, σ, h0, h => by
    rw [ez_250_69, if_neg (by rw [zlt32, zk_40]; omega)]
    exact ⟨_, rfl⟩
  | n + 1, i, d2, d3, σ, h0, h => by
    have e1 : (i + 1).toInt = i.toInt + 1 := (zk1 (n := 1) h0 (by omega)).resolve_right (by decide)
    have h1 := ha.1
    have h2 := ha.2
    have e2 : (40 * a + i).toInt = 40 * a.toInt + i.toInt := by
      rw [Int32.toInt_add, Int32.toInt_mul, zk_40, Int.bmod_def, Int.bmod_def]
      omega
    rw [ez_250_69, if_pos (by rw [zlt32, zk_40]; omega), zgd_t (zin_rg ⟨by omega, by omega⟩)]
    exact F250_69 ha n (i + 1) none none _ (by omega) (by omega)
theorem F250_44 {C : zC} {a b c : Int32} {d4 : Option zV} {σ : zM} (ha : zrg 0 a 3) : zwp (zrun C zT_250 44 [some (.inr (.inr (0, 60))), some (.inl a), some (.inl b), some (.inl c), d4] [] σ) (fun v _ _ => v = 1) := by
  have g : ∀ σ, zwp (zrun C zT_250 69 [some (.inr (.inr (0, 60))), some (.inl a), some (.inl b), some (.inl c), some (.inl 0)] [] σ) (fun v _ _ => v = 1) := fun σ => by
    obtain ⟨τ, e⟩ := F250_69 (C := C) ha 40 0 (some (.inl b)) (some (.inl c)) σ (by decide) (by decide)
    exact ⟨_, _, _, e, rfl⟩
  rw [ez_250_44]
  exact zwp_gd (zin_rg ha) (zwp_ite (fun _ => zwp_gd (zin_rg ha) (g _)) (fun _ => zwp_gd (zin_rg ha) (g _)))
theorem F17_0 {d : Nat} {a b c : Int32} {σ : zM} (ha : zrg 0 a 3) : ∃ τ, zev (d + 1) 17 [.inr (.inr (0, 41)), .inl a, .inl b, .inl c] σ = some (0, 0, τ) := by
  rw [ez_17]
  show ∃ τ, zgd _ _ = _
  rw [zgd_t (zin_rg ha), zgd_t (zin_rg ha)]
  exact F17_17 ha 40 0 _ _ _ (by decide) (by decide)
theorem zp_128 (p0 p1 p2 : Int32) : zcK 128 250 [.inl p0, .inl p1, .inl p2] := by
  by_cases h : zrg 0 p0 3
  · by_cases h1 : zrg (-1) p1 4
    · by_cases h2 : p1 = -1
      · subst h2
        refine ⟨1, fun τ hτ => ?_, fun τ hτ => ?_⟩
        · rw [ez_128]
          simp only [F144, F141, zk_0, zl_0, zk_1, zl_1, zk_2, zl_2, zk_3, zl_3, zk_4, zl_4, zk_5, zl_5, zk_6, zl_6, zk_8, zl_8, zk_9, zl_9, zk_10, zl_10, zk_14, zl_14, zk_20, zl_20, zk_40, zl_40, zk_60, zl_60, zk_200, zl_200, zk_999, zl_999, zk_m1, zl_m1, if_pos h, if_pos h1, zbs, zi10, if_true, if_false]
          exact zwp_gd (zin_rg h) ⟨_, _, _, rfl, rfl⟩
        · have l1 : ((-1 : Int32) < 0) = True := eq_true (by decide)
          rw [ez_250]
          simp only [F249, F149, zk_0, zl_0, zk_1, zl_1, zk_2, zl_2, zk_3, zl_3, zk_4, zl_4, zk_5, zl_5, zk_6, zl_6, zk_8, zl_8, zk_9, zl_9, zk_10, zl_10, zk_14, zl_14, zk_20, zl_20, zk_40, zl_40, zk_60, zl_60, zk_200, zl_200, zk_999, zl_999, zk_m1, zl_m1, if_pos h, if_pos h1, zbs, zi10, l1, if_true, if_false, ez_250_33]
          exact F250_44 h
      · have n1 : ¬ p1 < 0 := fun q => h2 (Int32.toInt_inj.mp (by rw [zlt32, zk_0] at q; rw [zk_m1]; have := h1.1; omega))
        by_cases h3 : 40 < p2
        · refine ⟨-1, fun τ hτ => ?_, fun τ hτ => ?_⟩
          · rw [ez_128]
            simp only [F144, F141, zk_0, zl_0, zk_1, zl_1, zk_2, zl_2, zk_3, zl_3, zk_4, zl_4, zk_5, zl_5, zk_6, zl_6, zk_8, zl_8, zk_9, zl_9, zk_10, zl_10, zk_14, zl_14, zk_20, zl_20, zk_40, zl_40, zk_60, zl_60, zk_200, zl_200, zk_999, zl_999, zk_m1, zl_m1, if_pos h, if_pos h1, if_neg h2, if_pos h3, zbs, zi10, if_false]
            exact ⟨_, _, _, rfl, rfl⟩
          · rw [ez_250]
            simp only [F249, F149, zk_0, zl_0, zk_1, zl_1, zk_2, zl_2, zk_3, zl_3, zk_4, zl_4, zk_5, zl_5, zk_6, zl_6, zk_8, zl_8, zk_9, zl_9, zk_10, zl_10, zk_14, zl_14, zk_20, zl_20, zk_40, zl_40, zk_60, zl_60, zk_200, zl_200, zk_999, zl_999, zk_m1, zl_m1, if_pos h, if_pos h1, if_neg n1, if_pos h3, zbs, zi10, if_false]
            exact ⟨_, _, _, rfl, rfl⟩
        · by_cases h4 : p2 < 0
          · refine ⟨-14, fun τ hτ => ?_, fun τ hτ => ?_⟩
            · rw [ez_128]
              simp only [F144, F141, zk_0, zl_0, zk_1, zl_1, zk_2, zl_2, zk_3, zl_3, zk_4, zl_4, zk_5, zl_5, zk_6, zl_6, zk_8, zl_8, zk_9, zl_9, zk_10, zl_10, zk_14, zl_14, zk_20, zl_20, zk_40, zl_40, zk_60, zl_60, zk_200, zl_200, zk_999, zl_999, zk_m1, zl_m1, if_pos h, if_pos h1, if_neg h2, if_neg h3, if_pos h4, zbs, zi10, if_false]
              exact ⟨_, _, _, rfl, rfl⟩
            · rw [ez_250]
              simp only [F249, F149, zk_0, zl_0, zk_1, zl_1, zk_2, zl_2, zk_3, zl_3, zk_4, zl_4, zk_5, zl_5, zk_6, zl_6, zk_8, zl_8, zk_9, zl_9, zk_10, zl_10, zk_14, zl_14, zk_20, zl_20, zk_40, zl_40, zk_60, zl_60, zk_200, zl_200, zk_999, zl_999, zk_m1, zl_m1, if_pos h, if_pos h1, if_neg n1, if_neg h3, if_pos h4, zbs, zi10, if_false, ez_250_33]
              exact ⟨_, _, _, rfl, rfl⟩
          · refine ⟨1, fun τ hτ => ?_, fun τ hτ => ?_⟩
            · obtain ⟨τ2, e⟩ := F17_0 (d := 62) (b := p1) (c := p2) (σ := τ) h
              rw [ez_128]
              simp only [F144, F141, zk_0, zl_0, zk_1, zl_1, zk_2, zl_2, zk_3, zl_3, zk_4, zl_4, zk_5, zl_5, zk_6, zl_6, zk_8, zl_8, zk_9, zl_9, zk_10, zl_10, zk_14, zl_14, zk_20, zl_20, zk_40, zl_40, zk_60, zl_60, zk_200, zl_200, zk_999, zl_999, zk_m1, zl_m1, if_pos h, if_pos h1, if_neg h2, if_neg h3, if_neg h4, zbs, zi10, if_false]
              rw [e, zbs]
              exact ⟨_, _, _, rfl, rfl⟩
            · rw [ez_250]
              simp only [F249, F149, zk_0, zl_0, zk_1, zl_1, zk_2, zl_2, zk_3, zl_3, zk_4, zl_4, zk_5, zl_5, zk_6, zl_6, zk_8, zl_8, zk_9, zl_9, zk_10, zl_10, zk_14, zl_14, zk_20, zl_20, zk_40, zl_40, zk_60, zl_60, zk_200, zl_200, zk_999, zl_999, zk_m1, zl_m1, if_pos h, if_pos h1, if_neg n1, if_neg h3, if_neg h4, zbs, zi10, if_false, ez_250_33]
              exact F250_44 h
    · refine ⟨-1, fun τ hτ => ?_, fun τ hτ => ?_⟩
      · rw [ez_128]
        simp only [F144, F141, zk_0, zl_0, zk_1, zl_1, zk_2, zl_2, zk_3, zl_3, zk_4, zl_4, zk_5, zl_5, zk_6, zl_6, zk_8, zl_8, zk_9, zl_9, zk_10, zl_10, zk_14, zl_14, zk_20, zl_20, zk_40, zl_40, zk_60, zl_60, zk_200, zl_200, zk_999, zl_999, zk_m1, zl_m1, if_pos h, if_neg h1, zbs, zi10, if_true, if_false]
        exact ⟨_, _, _, rfl, rfl⟩
      · rw [ez_250]
        simp only [F249, F149, zk_0, zl_0, zk_1, zl_1, zk_2, zl_2, zk_3, zl_3, zk_4, zl_4, zk_5, zl_5, zk_6, zl_6, zk_8, zl_8, zk_9, zl_9, zk_10, zl_10, zk_14, zl_14, zk_20, zl_20, zk_40, zl_40, zk_60, zl_60, zk_200, zl_200, zk_999, zl_999, zk_m1, zl_m1, if_pos h, if_neg h1, zbs, zi10, if_true, if_false]
        exact ⟨_, _, _, rfl, rfl⟩
  · refine ⟨-1, fun τ hτ => ?_, fun τ hτ => ?_⟩
    · rw [ez_128]
      simp only [F144, if_neg h, zbs, if_true]
      exact ⟨_, _, _, rfl, rfl⟩
    · rw [ez_250]
      simp only [F249, if_neg h, zbs, if_true]
      exact ⟨_, _, _, rfl, rfl⟩
theorem F75_3 {C : zC} {e : Int64} {n : Int32} (hn : n.toInt ≤ 8) : ∀ (k : Nat) (i : Int32) (d2 : Option zV) (σ : zM), 0 ≤ i.toInt → i.toInt + k = n.toInt → (σ.1 0 31 0).toInt = i.toInt → ∃ τ, zrun C zT_75 3 [some (.inr (.inr (0, 31))), some (.inr (.inl e)), d2, some (.inl n), some (.inl i)] [] σ = some (0, 0, τ) ∧ (τ.1 0 31 0).toInt = n.toInt
  | 0, i, d2, σ, h0, h, hc => by
    rw [ez_75_3, if_neg (by rw [zlt32]; omega)]
    exact ⟨_, rfl, by omega⟩
  | k + 1, i, d2, σ, h0, h, hc => by
    have e1 : (i + 1).toInt = i.toInt + 1 := (zk1 (n := 1) h0 (by omega)).resolve_right (by decide)
    have e2 : (σ.1 0 31 0 + 1).toInt = (σ.1 0 31 0).toInt + 1 := (zk1 (n := 1) (by omega) (by omega)).resolve_right (by decide)
    rw [ez_75_3, if_pos (by rw [zlt32]; omega), if_pos (by rw [zlt32, zk_200]; omega), zgd_t (zin_rg ⟨by omega, by omega⟩)]
    refine F75_3 hn k (i + 1) none _ (by omega) (by omega) ?_
    show (σ.1 0 31 0 + 1).toInt = _
    omega
theorem F231_32 {C : zC} {e : Int64} {n : Int32} (hn : n.toInt ≤ 8) : ∀ (k : Nat) (i : Int32) (d2 : Option zV) (σ : zM), 0 ≤ i.toInt → i.toInt + k = n.toInt → (σ.1 0 60 18).toInt = i.toInt → ∃ τ, zrun C zT_231 32 [some (.inr (.inr (0, 60))), some (.inr (.inl e)), d2, some (.inl n), some (.inl i)] [] σ = some (n, 0, τ)
  | 0, i, d2, σ, h0, h, hc => by
    rw [ez_231_32, if_neg (by rw [zlt32]; omega)]
    have : σ.1 0 60 18 = n := Int32.toInt_inj.mp (by omega)
    rw [this]
    exact ⟨_, rfl⟩
  | k + 1, i, d2, σ, h0, h, hc => by
    have e1 : (i + 1).toInt = i.toInt + 1 := (zk1 (n := 1) h0 (by omega)).resolve_right (by decide)
    have e2 : (σ.1 0 60 18 + 1).toInt = (σ.1 0 60 18).toInt + 1 := (zk1 (n := 1) (by omega) (by omega)).resolve_right (by decide)
    rw [ez_231_32, if_pos (by rw [zlt32]; omega), zgd_t (zin_rg ⟨by omega, by omega⟩)]
    refine F231_32 hn k (i + 1) none _ (by omega) (by omega) ?_
    show (σ.1 0 60 18 + 1).toInt = _
    omega
theorem zp_89 (e : Int64) (n : Int32) : zcK 89 231 [.inr (.inl e), .inl n] := by
  by_cases h : zrg 1 n 8
  · have h1 := h.1
    have h2 := h.2
    have q : ∀ x : Int32, x = 0 → ¬ 200 < x + n := fun x hx => by
        rw [hx, zlt32, zk_200, Int32.toInt_add, zk_0, Int.bmod_def]
        omega
    refine ⟨n, fun τ hτ => ?_, fun τ hτ => ?_⟩
    · have c : τ.1 0 31 0 = 0 := zRc hτ 0 31 0 (by decide)
      obtain ⟨τ2, e1, e2⟩ := F75_3 (C := zev 62) (e := e) h2 n.toInt.toNat 0 none τ (by decide) (by rw [zk_0]; omega) (by rw [c])
      rw [ez_89]
      simp only [F141, zk_0, zl_0, zk_1, zl_1, zk_2, zl_2, zk_3, zl_3, zk_4, zl_4, zk_5, zl_5, zk_6, zl_6, zk_8, zl_8, zk_9, zl_9, zk_10, zl_10, zk_14, zl_14, zk_20, zl_20, zk_40, zl_40, zk_60, zl_60, zk_200, zl_200, zk_999, zl_999, zk_m1, zl_m1, if_pos h, zbs, zi10, if_false, if_neg (q _ c), ez_75]
      rw [e1, zbs]
      exact ⟨_, _, _, rfl, Int32.toInt_inj.mp e2⟩
    · have c : τ.1 0 60 18 = 0 := zRmm hτ 0 60 18 (by decide)
      obtain ⟨τ2, e1⟩ := F231_32 (C := zev 63) (e := e) h2 n.toInt.toNat 0 none τ (by decide) (by rw [zk_0]; omega) (by rw [c])
      rw [ez_231]
      simp only [F149, zk_0, zl_0, zk_1, zl_1, zk_2, zl_2, zk_3, zl_3, zk_4, zl_4, zk_5, zl_5, zk_6, zl_6, zk_8, zl_8, zk_9, zl_9, zk_10, zl_10, zk_14, zl_14, zk_20, zl_20, zk_40, zl_40, zk_60, zl_60, zk_200, zl_200, zk_999, zl_999, zk_m1, zl_m1, if_pos h, zbs, zi10, if_false, if_neg (q _ c)]
      rw [e1]
      exact ⟨_, _, _, rfl, rfl⟩
  · refine ⟨-1, fun τ hτ => ?_, fun τ hτ => ?_⟩
    · rw [ez_89]
      simp only [F141, zk_0, zl_0, zk_1, zl_1, zk_2, zl_2, zk_3, zl_3, zk_4, zl_4, zk_5, zl_5, zk_6, zl_6, zk_8, zl_8, zk_9, zl_9, zk_10, zl_10, zk_14, zl_14, zk_20, zl_20, zk_40, zl_40, zk_60, zl_60, zk_200, zl_200, zk_999, zl_999, zk_m1, zl_m1, if_neg h, zbs, if_true]
      exact ⟨_, _, _, rfl, rfl⟩
    · rw [ez_231]
      simp only [F149, zk_0, zl_0, zk_1, zl_1, zk_2, zl_2, zk_3, zl_3, zk_4, zl_4, zk_5, zl_5, zk_6, zl_6, zk_8, zl_8, zk_9, zl_9, zk_10, zl_10, zk_14, zl_14, zk_20, zl_20, zk_40, zl_40, zk_60, zl_60, zk_200, zl_200, zk_999, zl_999, zk_m1, zl_m1, if_neg h, zbs, if_true]
      exact ⟨_, _, _, rfl, rfl⟩
theorem zp1 (xs : Nat → Int32) : zwp (zrun (zev 64) zT_281 18 zl0 [] (zS0 5 xs)) (fun a _ _ => a = 1) := by
  unfold zl0
  rw [ezL_18]
  refine zwp_ite (fun _ => zwp_gd (by decide) (zwp_some rfl)) (fun _ => zwp_gd (show zin 0 (Int32.toNatClampNeg (nI 5)) = true by decide) ?_)
  refine zwp_ite (fun _ => zq_244 (zp_84 _ _ _ _)) (fun _ => ?_)
  refine zwp_ite (fun _ => zq_297 (zp_85 _ _)) (fun _ => ?_)
  refine zwp_ite (fun _ => zq_330 (zp_86 _ _ _)) (fun _ => ?_)
  refine zwp_ite (fun _ => zq_373 (zp_87 _ _)) (fun _ => ?_)
  refine zwp_ite (fun _ => zq_406 (zp_88 _ _)) (fun _ => ?_)
  refine zwp_ite (fun _ => zq_439 (zp_89 _ _)) (fun _ => ?_)
  refine zwp_ite (fun _ => zq_502 (zp_90)) (fun _ => ?_)
  refine zwp_ite (fun _ => zq_515 (zp_91 _ _)) (fun _ => ?_)
  refine zwp_ite (fun _ => zq_548 (zp_92 _ _)) (fun _ => ?_)
  refine zwp_ite (fun _ => zq_581 (zp_93 _ _)) (fun _ => ?_)
  refine zwp_ite (fun _ => zq_614 (zp_94 _)) (fun _ => ?_)
  refine zwp_ite (fun _ => zq_637 (zp_95)) (fun _ => ?_)
  refine zwp_ite (fun _ => zq_650 (zp_96)) (fun _ => ?_)
  refine zwp_ite (fun _ => zq_663 (zp_97)) (fun _ => ?_)
  refine zwp_ite (fun _ => zq_676 (zp_98)) (fun _ => ?_)
  refine zwp_ite (fun _ => zq_689 (zp_99 _)) (fun _ => ?_)
  refine zwp_ite (fun _ => zq_712 (zp_100)) (fun _ => ?_)
  refine zwp_ite (fun _ => zq_725 (zp_101 _)) (fun _ => ?_)
  refine zwp_ite (fun _ => zq_748 (zp_102 _)) (fun _ => ?_)
  refine zwp_ite (fun _ => zq_771 (zp_103 _)) (fun _ => ?_)
  refine zwp_ite (fun _ => zq_794 (zp_104)) (fun _ => ?_)
  refine zwp_ite (fun _ => zq_807 (zp_105)) (fun _ => ?_)
  refine zwp_ite (fun _ => zq_820 (zp_106)) (fun _ => ?_)
  refine zwp_ite (fun _ => zq_833 (zp_110 _ _)) (fun _ => ?_)
  refine zwp_ite (fun _ => zq_866 (zp_111 _)) (fun _ => ?_)
  refine zwp_ite (fun _ => zq_889 (zp_112 _ _)) (fun _ => ?_)
  refine zwp_ite (fun _ => zq_922 (zp_113 _ _)) (fun _ => ?_)
  refine zwp_ite (fun _ => zq_955 (zp_115 _ _)) (fun _ => ?_)
  refine zwp_ite (fun _ => zq_988 (zp_116)) (fun _ => ?_)
  refine zwp_ite (fun _ => zq_1001 (zp_117 _)) (fun _ => ?_)
  refine zwp_ite (fun _ => zq_1024 (zp_118)) (fun _ => ?_)
  refine zwp_ite (fun _ => zq_1037 (zp_119 _)) (fun _ => ?_)
  refine zwp_ite (fun _ => zq_1060 (zp_120)) (fun _ => ?_)
  refine zwp_ite (fun _ => zq_1073 (zp_121 _)) (fun _ => ?_)
  refine zwp_ite (fun _ => zq_1096 (zp_124 _)) (fun _ => ?_)
  refine zwp_ite (fun _ => zq_1119 (zp_125 _ _)) (fun _ => ?_)
  refine zwp_ite (fun _ => zq_1152 (zp_126 _ _ _)) (fun _ => ?_)
  refine zwp_ite (fun _ => zq_1195 (zp_127)) (fun _ => ?_)
  refine zwp_ite (fun _ => zq_1208 (zp_128 _ _ _)) (fun _ => ?_)
  refine zwp_ite (fun _ => zq_1251 (zp_129 _ _ _)) (fun _ => ?_)
  refine zwp_ite (fun _ => zq_1294 (zp_130 _ _ _)) (fun _ => ?_)
  refine zwp_ite (fun _ => zq_1337 (zp_131 _ _ _ _)) (fun _ => ?_)
  refine zwp_ite (fun _ => zq_1390 (zp_132 _ _ _)) (fun _ => ?_)
  refine zwp_ite (fun _ => zq_1433 (zp_133 _ _)) (fun _ => ?_)
  refine zwp_ite (fun _ => zq_1466 (zp_134 _ _ _)) (fun _ => ?_)
  refine zwp_ite (fun _ => zq_1509 (zp_135 _)) (fun _ => ?_)
  refine zwp_ite (fun _ => zq_1532 (zp_136 _)) (fun _ => ?_)
  refine zwp_ite (fun _ => zq_1555 (zp_139)) (fun _ => ?_)
  refine zwp_ite (fun _ => zq_1568 (zp_140)) (fun _ => ?_)
  exact zend ⟨rfl, fun j _ => rfl⟩
