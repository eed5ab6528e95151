theorem zk_0 : (0 : Int32).toInt = 0 := by decide
theorem zl_0 : (0 : Int64).toInt = 0 := by decide
theorem zk_1 : (1 : Int32).toInt = 1 := by decide
theorem zl_1 : (1 : Int64).toInt = 1 := by decide
theorem zk_2 : (2 : Int32).toInt = 2 := by decide
theorem zl_2 : (2 : Int64).toInt = 2 := by decide
theorem zk_3 : (3 : Int32).toInt = 3 := by decide
theorem zl_3 : (3 : Int64).toInt = 3 := by decide
theorem zk_4 : (4 : Int32).toInt = 4 := by decide
theorem zl_4 : (4 : Int64).toInt = 4 := by decide
theorem zk_5 : (5 : Int32).toInt = 5 := by decide
theorem zl_5 : (5 : Int64).toInt = 5 := by decide
theorem zk_6 : (6 : Int32).toInt = 6 := by decide
theorem zl_6 : (6 : Int64).toInt = 6 := by decide
theorem zk_8 : (8 : Int32).toInt = 8 := by decide
theorem zl_8 : (8 : Int64).toInt = 8 := by decide
theorem zk_9 : (9 : Int32).toInt = 9 := by decide
theorem zl_9 : (9 : Int64).toInt = 9 := by decide
theorem zk_10 : (10 : Int32).toInt = 10 := by decide
theorem zl_10 : (10 : Int64).toInt = 10 := by decide
theorem zk_14 : (14 : Int32).toInt = 14 := by decide
theorem zl_14 : (14 : Int64).toInt = 14 := by decide
theorem zk_20 : (20 : Int32).toInt = 20 := by decide
theorem zl_20 : (20 : Int64).toInt = 20 := by decide
theorem zk_40 : (40 : Int32).toInt = 40 := by decide
theorem zl_40 : (40 : Int64).toInt = 40 := by decide
theorem zk_60 : (60 : Int32).toInt = 60 := by decide
theorem zl_60 : (60 : Int64).toInt = 60 := by decide
theorem zk_200 : (200 : Int32).toInt = 200 := by decide
theorem zl_200 : (200 : Int64).toInt = 200 := by decide
theorem zk_999 : (999 : Int32).toInt = 999 := by decide
theorem zl_999 : (999 : Int64).toInt = 999 := by decide
theorem zk_m1 : (-1 : Int32).toInt = -1 := by decide
theorem zl_m1 : (-1 : Int64).toInt = -1 := by decide
theorem zrg_nat {p : Int32} {l h : Nat} (q : zrg l p h) : ∃ n : Nat, n < h + 1 - l ∧ p = Int32.ofNat (n + l) := by
  have h1 := q.1
  have h2 := q.2
  refine ⟨p.toInt.toNat - l, by omega, Int32.toInt_inj.mp ?_⟩
  have h3 := p.toInt_lt
  rw [Int32.toInt_ofNat_of_lt (by omega)]
  omega
theorem F214 {d : Nat} {p q : Int32} {σ : zM} : zev (d + 2) 214 [.inl p, .inl q] σ = some (if zrg 0 p 1 ∧ zrg 1 q 4 then 1 else 0, 0, σ) := by
  rw [ez_214]
  show (Option.bind (zev (d + 1) 149 _ σ) _) = _
  simp only [F149, zbs, zif0, zl_0, zl_1, zl_4]
  by_cases h1 : zrg 0 p 1
  · by_cases h2 : zrg 1 q 4
    · rw [if_pos h1, if_pos h2, if_pos ⟨h1, h2⟩, zg31]
    · rw [if_pos h1, if_neg h2, if_neg (fun q => h2 q.2), zg30]
  · rw [if_neg h1, if_neg (fun q => h1 q.1), zg30]
theorem zpc_99_0 : zqc 9000 64 99 [.inr (.inr (0, 30)), .inl 0] 0 = true := by decide +kernel
theorem zpm_99_0 : zqc 9000 64 194 [.inr (.inr (0, 60)), .inl 0] 0 = true := by decide +kernel
theorem zpc_99_1 : zqc 9000 64 99 [.inr (.inr (0, 30)), .inl 1] 0 = true := by decide +kernel
theorem zpm_99_1 : zqc 9000 64 194 [.inr (.inr (0, 60)), .inl 1] 0 = true := by decide +kernel
theorem zp_99 (p0 : Int32) : zcK 99 194 [.inl p0] := by
  by_cases h : zrg 0 p0 1
  · rcases zrg01.mp h with rfl | rfl
    · exact zcq zpc_99_0 zpm_99_0 (zAi zA0) (zAi zA0)
    · exact zcq zpc_99_1 zpm_99_1 (zAi zA0) (zAi zA0)
  · refine ⟨-1, fun τ hτ => ?_, fun τ hτ => ?_⟩
    · rw [ez_99]
      simp only [F143, if_neg h, zbs, if_true]
      exact ⟨_, _, _, rfl, rfl⟩
    · rw [ez_194]
      simp only [F149, zk_0, zl_0, zk_1, zl_1, zk_2, zl_2, zk_3, zl_3, zk_4, zl_4, zk_5, zl_5, zk_6, zl_6, zk_8, zl_8, zk_9, zl_9, zk_10, zl_10, zk_14, zl_14, zk_20, zl_20, zk_40, zl_40, zk_60, zl_60, zk_200, zl_200, zk_999, zl_999, zk_m1, zl_m1, if_neg h, zbs, if_true]
      exact ⟨_, _, _, rfl, rfl⟩
theorem zpc_112_0 : ∀ n, n < 4 → zqc 9000 64 112 [.inr (.inr (0, 30)), .inl 0, .inl (Int32.ofNat (n + 1))] (2) = true := by decide +kernel
theorem zpm_112_0 : ∀ n, n < 4 → zqc 9000 64 215 [.inr (.inr (0, 60)), .inl 0, .inl (Int32.ofNat (n + 1))] (2) = true := by decide +kernel
theorem zpc_112_1 : ∀ n, n < 4 → zqc 9000 64 112 [.inr (.inr (0, 30)), .inl 1, .inl (Int32.ofNat (n + 1))] (2) = true := by decide +kernel
theorem zpm_112_1 : ∀ n, n < 4 → zqc 9000 64 215 [.inr (.inr (0, 60)), .inl 1, .inl (Int32.ofNat (n + 1))] (2) = true := by decide +kernel
theorem zp_112 (p0 p1 : Int32) : zcK 112 215 [.inl p0, .inl p1] := by
  by_cases h : zrg 0 p0 1
  · by_cases h2 : zrg 1 p1 4
    · obtain ⟨n, hn, rfl⟩ := zrg_nat (l := 1) (h := 4) h2
      rcases zrg01.mp h with rfl | rfl
      · exact zcq (zpc_112_0 n hn) (zpm_112_0 n hn) (zAi (zAi zA0)) (zAi (zAi zA0))
      · exact zcq (zpc_112_1 n hn) (zpm_112_1 n hn) (zAi (zAi zA0)) (zAi (zAi zA0))
    · refine ⟨-1, fun τ hτ => ?_, fun τ hτ => ?_⟩
      · rw [ez_112]
        simp only [F143, F141, zk_0, zl_0, zk_1, zl_1, zk_2, zl_2, zk_3, zl_3, zk_4, zl_4, zk_5, zl_5, zk_6, zl_6, zk_8, zl_8, zk_9, zl_9, zk_10, zl_10, zk_14, zl_14, zk_20, zl_20, zk_40, zl_40, zk_60, zl_60, zk_200, zl_200, zk_999, zl_999, zk_m1, zl_m1, if_pos h, if_neg h2, zbs, zi10, if_true, if_false]
        exact ⟨_, _, _, rfl, rfl⟩
      · rw [ez_215]
        simp only [F214, if_neg (fun q : zrg 0 p0 1 ∧ zrg 1 p1 4 => h2 q.2), zbs, if_true]
        exact ⟨_, _, _, rfl, rfl⟩
  · refine ⟨-1, fun τ hτ => ?_, fun τ hτ => ?_⟩
    · rw [ez_112]
      simp only [F143, if_neg h, zbs, if_true]
      exact ⟨_, _, _, rfl, rfl⟩
    · rw [ez_215]
      simp only [F214, if_neg (fun q : zrg 0 p0 1 ∧ zrg 1 p1 4 => h q.1), zbs, if_true]
      exact ⟨_, _, _, rfl, rfl⟩
theorem zpc_113_0 : ∀ n, n < 4 → zqc 9000 64 113 [.inr (.inr (0, 30)), .inl 0, .inl (Int32.ofNat (n + 1))] (-3) = true := by decide +kernel
theorem zpm_113_0 : ∀ n, n < 4 → zqc 9000 64 216 [.inr (.inr (0, 60)), .inl 0, .inl (Int32.ofNat (n + 1))] (-3) = true := by decide +kernel
theorem zpc_113_1 : ∀ n, n < 4 → zqc 9000 64 113 [.inr (.inr (0, 30)), .inl 1, .inl (Int32.ofNat (n + 1))] (-3) = true := by decide +kernel
theorem zpm_113_1 : ∀ n, n < 4 → zqc 9000 64 216 [.inr (.inr (0, 60)), .inl 1, .inl (Int32.ofNat (n + 1))] (-3) = true := by decide +kernel
theorem zp_113 (p0 p1 : Int32) : zcK 113 216 [.inl p0, .inl p1] := by
  by_cases h : zrg 0 p0 1
  · by_cases h2 : zrg 1 p1 4
    · obtain ⟨n, hn, rfl⟩ := zrg_nat (l := 1) (h := 4) h2
      rcases zrg01.mp h with rfl | rfl
      · exact zcq (zpc_113_0 n hn) (zpm_113_0 n hn) (zAi (zAi zA0)) (zAi (zAi zA0))
      · exact zcq (zpc_113_1 n hn) (zpm_113_1 n hn) (zAi (zAi zA0)) (zAi (zAi zA0))
    · refine ⟨-1, fun τ hτ => ?_, fun τ hτ => ?_⟩
      · rw [ez_113]
        simp only [F143, F141, zk_0, zl_0, zk_1, zl_1, zk_2, zl_2, zk_3, zl_3, zk_4, zl_4, zk_5, zl_5, zk_6, zl_6, zk_8, zl_8, zk_9, zl_9, zk_10, zl_10, zk_14, zl_14, zk_20, zl_20, zk_40, zl_40, zk_60, zl_60, zk_200, zl_200, zk_999, zl_999, zk_m1, zl_m1, if_pos h, if_neg h2, zbs, zi10, if_true, if_false]
        exact ⟨_, _, _, rfl, rfl⟩
      · rw [ez_216]
        simp only [F214, if_neg (fun q : zrg 0 p0 1 ∧ zrg 1 p1 4 => h2 q.2), zbs, if_true]
        exact ⟨_, _, _, rfl, rfl⟩
  · refine ⟨-1, fun τ hτ => ?_, fun τ hτ => ?_⟩
    · rw [ez_113]
      simp only [F143, if_neg h, zbs, if_true]
      exact ⟨_, _, _, rfl, rfl⟩
    · rw [ez_216]
      simp only [F214, if_neg (fun q : zrg 0 p0 1 ∧ zrg 1 p1 4 => h q.1), zbs, if_true]
      exact ⟨_, _, _, rfl, rfl⟩
theorem zpc_117_0 : zqc 9000 64 117 [.inr (.inr (0, 30)), .inl 0] 200 = true := by decide +kernel
theorem zpm_117_0 : zqc 9000 64 221 [.inr (.inr (0, 60)), .inl 0] 200 = true := by decide +kernel
theorem zpc_117_1 : zqc 9000 64 117 [.inr (.inr (0, 30)), .inl 1] 1 = true := by decide +kernel
theorem zpm_117_1 : zqc 9000 64 221 [.inr (.inr (0, 60)), .inl 1] 1 = true := by decide +kernel
theorem zpc_117_2 : zqc 9000 64 117 [.inr (.inr (0, 30)), .inl 2] 200 = true := by decide +kernel
theorem zpm_117_2 : zqc 9000 64 221 [.inr (.inr (0, 60)), .inl 2] 200 = true := by decide +kernel
theorem zp_117 (p0 : Int32) : zcK 117 221 [.inl p0] := by
  by_cases h : zrg 0 p0 2
  · obtain ⟨n, hn, rfl⟩ := zrg_nat (l := 0) (h := 2) h
    rcases (by omega : n = 0 ∨ n = 1 ∨ n = 2) with rfl | rfl | rfl
    · exact zcq zpc_117_0 zpm_117_0 (zAi zA0) (zAi zA0)
    · exact zcq zpc_117_1 zpm_117_1 (zAi zA0) (zAi zA0)
    · exact zcq zpc_117_2 zpm_117_2 (zAi zA0) (zAi zA0)
  · refine ⟨-1, fun τ hτ => ?_, fun τ hτ => ?_⟩
    · rw [ez_117]
      simp only [F141, zk_0, zl_0, zk_1, zl_1, zk_2, zl_2, zk_3, zl_3, zk_4, zl_4, zk_5, zl_5, zk_6, zl_6, zk_8, zl_8, zk_9, zl_9, zk_10, zl_10, zk_14, zl_14, zk_20, zl_20, zk_40, zl_40, zk_60, zl_60, zk_200, zl_200, zk_999, zl_999, zk_m1, zl_m1, if_neg h, zbs, if_true]
      exact ⟨_, _, _, rfl, rfl⟩
    · rw [ez_221]
      simp only [F149, zk_0, zl_0, zk_1, zl_1, zk_2, zl_2, zk_3, zl_3, zk_4, zl_4, zk_5, zl_5, zk_6, zl_6, zk_8, zl_8, zk_9, zl_9, zk_10, zl_10, zk_14, zl_14, zk_20, zl_20, zk_40, zl_40, zk_60, zl_60, zk_200, zl_200, zk_999, zl_999, zk_m1, zl_m1, if_neg h, zbs, if_true]
      exact ⟨_, _, _, rfl, rfl⟩
theorem zpc_121 : ∀ n, n < 60 → zqc 9000 64 121 [.inr (.inr (0, 30)), .inl (Int32.ofNat (n + 1))] 0 = true := by decide +kernel
theorem zpm_121_0 : zqc 9000 64 225 [.inr (.inr (0, 60)), .inl (Int32.ofNat 1)] 0 = true := by decide +kernel
theorem zpm_121_1 : zqc 9000 64 225 [.inr (.inr (0, 60)), .inl (Int32.ofNat 2)] 0 = true := by decide +kernel
theorem zpm_121_2 : zqc 9000 64 225 [.inr (.inr (0, 60)), .inl (Int32.ofNat 3)] 0 = true := by decide +kernel
theorem zpm_121_3 : zqc 9000 64 225 [.inr (.inr (0, 60)), .inl (Int32.ofNat 4)] 0 = true := by decide +kernel
theorem zpm_121_4 : zqc 9000 64 225 [.inr (.inr (0, 60)), .inl (Int32.ofNat 5)] 0 = true := by decide +kernel
theorem zpm_121_5 : zqc 9000 64 225 [.inr (.inr (0, 60)), .inl (Int32.ofNat 6)] 0 = true := by decide +kernel
theorem zpm_121_6 : zqc 9000 64 225 [.inr (.inr (0, 60)), .inl (Int32.ofNat 7)] 0 = true := by decide +kernel
theorem zpm_121_7 : zqc 9000 64 225 [.inr (.inr (0, 60)), .inl (Int32.ofNat 8)] 0 = true := by decide +kernel
theorem zpm_121_8 : zqc 9000 64 225 [.inr (.inr (0, 60)), .inl (Int32.ofNat 9)] 0 = true := by decide +kernel
theorem zpm_121_9 : zqc 9000 64 225 [.inr (.inr (0, 60)), .inl (Int32.ofNat 10)] 0 = true := by decide +kernel
theorem zpm_121_10 : zqc 9000 64 225 [.inr (.inr (0, 60)), .inl (Int32.ofNat 11)] 0 = true := by decide +kernel
theorem zpm_121_11 : zqc 9000 64 225 [.inr (.inr (0, 60)), .inl (Int32.ofNat 12)] 0 = true := by decide +kernel
theorem zpm_121_12 : zqc 9000 64 225 [.inr (.inr (0, 60)), .inl (Int32.ofNat 13)] 0 = true := by decide +kernel
theorem zpm_121_13 : zqc 9000 64 225 [.inr (.inr (0, 60)), .inl (Int32.ofNat 14)] 0 = true := by decide +kernel
theorem zpm_121_14 : zqc 9000 64 225 [.inr (.inr (0, 60)), .inl (Int32.ofNat 15)] 0 = true := by decide +kernel
theorem zpm_121_15 : zqc 9000 64 225 [.inr (.inr (0, 60)), .inl (Int32.ofNat 16)] 0 = true := by decide +kernel
theorem zpm_121_16 : zqc 9000 64 225 [.inr (.inr (0, 60)), .inl (Int32.ofNat 17)] 0 = true := by decide +kernel
theorem zpm_121_17 : zqc 9000 64 225 [.inr (.inr (0, 60)), .inl (Int32.ofNat 18)] 0 = true := by decide +kernel
theorem zpm_121_18 : zqc 9000 64 225 [.inr (.inr (0, 60)), .inl (Int32.ofNat 19)] 0 = true := by decide +kernel
theorem zpm_121_19 : zqc 9000 64 225 [.inr (.inr (0, 60)), .inl (Int32.ofNat 20)] 0 = true := by decide +kernel
theorem zpm_121_20 : zqc 9000 64 225 [.inr (.inr (0, 60)), .inl (Int32.ofNat 21)] 0 = true := by decide +kernel
theorem zpm_121_21 : zqc 9000 64 225 [.inr (.inr (0, 60)), .inl (Int32.ofNat 22)] 0 = true := by decide +kernel
theorem zpm_121_22 : zqc 9000 64 225 [.inr (.inr (0, 60)), .inl (Int32.ofNat 23)] 0 = true := by decide +kernel
theorem zpm_121_23 : zqc 9000 64 225 [.inr (.inr (0, 60)), .inl (Int32.ofNat 24)] 0 = true := by decide +kernel
theorem zpm_121_24 : zqc 9000 64 225 [.inr (.inr (0, 60)), .inl (Int32.ofNat 25)] 0 = true := by decide +kernel
theorem zpm_121_25 : zqc 9000 64 225 [.inr (.inr (0, 60)), .inl (Int32.ofNat 26)] 0 = true := by decide +kernel
theorem zpm_121_26 : zqc 9000 64 225 [.inr (.inr (0, 60)), .inl (Int32.ofNat 27)] 0 = true := by decide +kernel
theorem zpm_121_27 : zqc 9000 64 225 [.inr (.inr (0, 60)), .inl (Int32.ofNat 28)] 0 = true := by decide +kernel
theorem zpm_121_28 : zqc 9000 64 225 [.inr (.inr (0, 60)), .inl (Int32.ofNat 29)] 0 = true := by decide +kernel
theorem zpm_121_29 : zqc 9000 64 225 [.inr (.inr (0, 60)), .inl (Int32.ofNat 30)] 0 = true := by decide +kernel
theorem zpm_121_30 : zqc 9000 64 225 [.inr (.inr (0, 60)), .inl (Int32.ofNat 31)] 0 = true := by decide +kernel
theorem zpm_121_31 : zqc 9000 64 225 [.inr (.inr (0, 60)), .inl (Int32.ofNat 32)] 0 = true := by decide +kernel
theorem zpm_121_32 : zqc 9000 64 225 [.inr (.inr (0, 60)), .inl (Int32.ofNat 33)] 0 = true := by decide +kernel
theorem zpm_121_33 : zqc 9000 64 225 [.inr (.inr (0, 60)), .inl (Int32.ofNat 34)] 0 = true := by decide +kernel
theorem zpm_121_34 : zqc 9000 64 225 [.inr (.inr (0, 60)), .inl (Int32.ofNat 35)] 0 = true := by decide +kernel
theorem zpm_121_35 : zqc 9000 64 225 [.inr (.inr (0, 60)), .inl (Int32.ofNat 36)] 0 = true := by decide +kernel
theorem zpm_121_36 : zqc 9000 64 225 [.inr (.inr (0, 60)), .inl (Int32.ofNat 37)] 0 = true := by decide +kernel
theorem zpm_121_37 : zqc 9000 64 225 [.inr (.inr (0, 60)), .inl (Int32.ofNat 38)] 0 = true := by decide +kernel
theorem zpm_121_38 : zqc 9000 64 225 [.inr (.inr (0, 60)), .inl (Int32.ofNat 39)] 0 = true := by decide +kernel
theorem zpm_121_39 : zqc 9000 64 225 [.inr (.inr (0, 60)), .inl (Int32.ofNat 40)] 0 = true := by decide +kernel
theorem zpm_121_40 : zqc 9000 64 225 [.inr (.inr (0, 60)), .inl (Int32.ofNat 41)] 0 = true := by decide +kernel
theorem zpm_121_41 : zqc 9000 64 225 [.inr (.inr (0, 60)), .inl (Int32.ofNat 42)] 0 = true := by decide +kernel
theorem zpm_121_42 : zqc 9000 64 225 [.inr (.inr (0, 60)), .inl (Int32.ofNat 43)] 0 = true := by decide +kernel
theorem zpm_121_43 : zqc 9000 64 225 [.inr (.inr (0, 60)), .inl (Int32.ofNat 44)] 0 = true := by decide +kernel
theorem zpm_121_44 : zqc 9000 64 225 [.inr (.inr (0, 60)), .inl (Int32.ofNat 45)] 0 = true := by decide +kernel
theorem zpm_121_45 : zqc 9000 64 225 [.inr (.inr (0, 60)), .inl (Int32.ofNat 46)] 0 = true := by decide +kernel
theorem zpm_121_46 : zqc 9000 64 225 [.inr (.inr (0, 60)), .inl (Int32.ofNat 47)] 0 = true := by decide +kernel
theorem zpm_121_47 : zqc 9000 64 225 [.inr (.inr (0, 60)), .inl (Int32.ofNat 48)] 0 = true := by decide +kernel
theorem zpm_121_48 : zqc 9000 64 225 [.inr (.inr (0, 60)), .inl (Int32.ofNat 49)] 0 = true := by decide +kernel
theorem zpm_121_49 : zqc 9000 64 225 [.inr (.inr (0, 60)), .inl (Int32.ofNat 50)] 0 = true := by decide +kernel
theorem zpm_121_50 : zqc 9000 64 225 [.inr (.inr (0, 60)), .inl (Int32.ofNat 51)] 0 = true := by decide +kernel
theorem zpm_121_51 : zqc 9000 64 225 [.inr (.inr (0, 60)), .inl (Int32.ofNat 52)] 0 = true := by decide +kernel
theorem zpm_121_52 : zqc 9000 64 225 [.inr (.inr (0, 60)), .inl (Int32.ofNat 53)] 0 = true := by decide +kernel
theorem zpm_121_53 : zqc 9000 64 225 [.inr (.inr (0, 60)), .inl (Int32.ofNat 54)] 0 = true := by decide +kernel
theorem zpm_121_54 : zqc 9000 64 225 [.inr (.inr (0, 60)), .inl (Int32.ofNat 55)] 0 = true := by decide +kernel
theorem zpm_121_55 : zqc 9000 64 225 [.inr (.inr (0, 60)), .inl (Int32.ofNat 56)] 0 = true := by decide +kernel
theorem zpm_121_56 : zqc 9000 64 225 [.inr (.inr (0, 60)), .inl (Int32.ofNat 57)] 0 = true := by decide +kernel
theorem zpm_121_57 : zqc 9000 64 225 [.inr (.inr (0, 60)), .inl (Int32.ofNat 58)] 0 = true := by decide +kernel
theorem zpm_121_58 : zqc 9000 64 225 [.inr (.inr (0, 60)), .inl (Int32.ofNat 59)] 0 = true := by decide +kernel
theorem zpm_121_59 : zqc 9000 64 225 [.inr (.inr (0, 60)), .inl (Int32.ofNat 60)] 0 = true := by decide +kernel
theorem zpm_121 : ∀ n, n < 60 → zqc 9000 64 225 [.inr (.inr (0, 60)), .inl (Int32.ofNat (n + 1))] 0 = true
  | 0, _ => zpm_121_0
  | 1, _ => zpm_121_1
  | 2, _ => zpm_121_2
  | 3, _ => zpm_121_3
  | 4, _ => zpm_121_4
  | 5, _ => zpm_121_5
  | 6, _ => zpm_121_6
  | 7, _ => zpm_121_7
  | 8, _ => zpm_121_8
  | 9, _ => zpm_121_9
  | 10, _ => zpm_121_10
  | 11, _ => zpm_121_11
  | 12, _ => zpm_121_12
  | 13, _ => zpm_121_13
  | 14, _ => zpm_121_14
  | 15, _ => zpm_121_15
  | 16, _ => zpm_121_16
  | 17, _ => zpm_121_17
  | 18, _ => zpm_121_18
  | 19, _ => zpm_121_19
  | 20, _ => zpm_121_20
  | 21, _ => zpm_121_21
  | 22, _ => zpm_121_22
  | 23, _ => zpm_121_23
  | 24, _ => zpm_121_24
  | 25, _ => zpm_121_25
  | 26, _ => zpm_121_26
  | 27, _ => zpm_121_27
  | 28, _ => zpm_121_28
  | 29, _ => zpm_121_29
  | 30, _ => zpm_121_30
  | 31, _ => zpm_121_31
  | 32, _ => zpm_121_32
  | 33, _ => zpm_121_33
  | 34, _ => zpm_121_34
  | 35, _ => zpm_121_35
  | 36, _ => zpm_121_36
  | 37, _ => zpm_121_37
  | 38, _ => zpm_121_38
  | 39, _ => zpm_121_39
  | 40, _ => zpm_121_40
  | 41, _ => zpm_121_41
  | 42, _ => zpm_121_42
  | 43, _ => zpm_121_43
  | 44, _ => zpm_121_44
  | 45, _ => zpm_121_45
  | 46, _ => zpm_121_46
  | 47, _ => zpm_121_47
  | 48, _ => zpm_121_48
  | 49, _ => zpm_121_49
  | 50, _ => zpm_121_50
  | 51, _ => zpm_121_51
  | 52, _ => zpm_121_52
  | 53, _ => zpm_121_53
  | 54, _ => zpm_121_54
  | 55, _ => zpm_121_55
  | 56, _ => zpm_121_56
  | 57, _ => zpm_121_57
  | 58, _ => zpm_121_58
  | 59, _ => zpm_121_59
  | n + 60, h => absurd h (by omega)
