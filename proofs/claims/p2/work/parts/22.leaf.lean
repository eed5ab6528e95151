theorem zBi {b : Bool} {x y : zR} : (if zB b = 0 then x else y) = (bif b then y else x) := by cases b <;> rfl
theorem zBj {b : Bool} {x y : zR} : (if zB b = 1 then x else y) = (bif b then x else y) := by cases b <;> rfl
theorem nI_iI (n : Nat) : nI n = iI n := (Int32.ofInt_eq_ofNat).symm
theorem zint {z : Int} (h : 0 ≤ z) : ∃ n : Nat, z = n := ⟨z.toNat, by omega⟩
theorem zrg_B {p : Int32} {l h : Int} {σ : zM} : (some (if zrg l p h then (1 : Int32) else 0, 0, σ) : zR) = some (zB (decide (l ≤ p.toInt ∧ p.toInt ≤ h)), 0, σ) := by
  by_cases q : l ≤ p.toInt ∧ p.toInt ≤ h
  · rw [if_pos q, decide_eq_true q]; rfl
  · rw [if_neg q, decide_eq_false q]; rfl
theorem zdec {P Q : Prop} {hP : Decidable P} {hQ : Decidable Q} (h : P ↔ Q) : decide P = decide Q := decide_eq_decide.mpr h
theorem zbit {x : Int32} {u : Nat} (hu : u < 32) : (((x >>> (iI u &&& 31)) &&& 1) = 0) = (bt x u = false) := by
  rw [← nI_iI]
  have b1 : ∀ i, i < 32 → bt 1 i = decide (i = 0) := by decide +kernel
  refine propext ⟨fun h => ?_, fun h => ?_⟩
  · have := congrArg (fun y => bt y 0) h
    simp only [b_and, b_sshr u hu x (show 0 < 32 by decide), b1 0 (by decide), b_0] at this
    simpa [hu] using this
  · refine b_ext fun i hi => ?_
    rw [b_and, b_sshr u hu x hi, b1 i hi, b_0]
    by_cases q : i = 0
    · subst q; simp [hu, h]
    · simp [q]
theorem zc145 {d : Nat} {x : Int32} {u : Nat} {σ : zM} (hu : u < 32) : zev (d + 1) 145 [.inl x, .inl (iI u)] σ = some (zB (bt x u), 0, σ) := by
  rw [ez_145]
  show (if ((x >>> (iI u &&& 31)) &&& 1) = 0 then _ else _) = _
  simp only [zbit hu]
  cases bt x u
  · exact zgd_t rfl
  · exact zgd_t rfl
theorem zc141 {d : Nat} {z l h : Int} {σ : zM} (hz : zrn z) (hl : zrn l) (hh : zrn h) : zev (d + 1) 141 [.inl (iI z), .inl (iI l), .inl (iI h)] σ = some (zB (decide (l ≤ z ∧ z ≤ h)), 0, σ) := by
  rw [F141, zrg_B, t_iI hz, t_iI hl, t_iI hh]
theorem zc13 {d g : Nat} {S : zS} {σ : zM} {z : Int} (h : σ.1 g 1 0 = iI (S 0)) (w : 0 ≤ S 0 ∧ S 0 ≤ 9) (hz : zrn z) : zev (d + 1) 13 [.inr (.inr (g, 1)), .inl (iI z)] σ = some (zB (decide (0 ≤ z ∧ z < S 0)), 0, σ) := by
  rw [F13, h, zrg_B, t_iI hz, t_iI (by omega)]
  rw [zdec (show (0 ≤ z ∧ z ≤ S 0 - 1) ↔ (0 ≤ z ∧ z < S 0) by omega)]
theorem zc37 {d g : Nat} {S : zS} {σ : zM} {z : Int} (h : σ.1 g 15 0 = iI (S 2)) (w : 0 ≤ S 2 ∧ S 2 ≤ 8) (hz : zrn z) : zev (d + 1) 37 [.inr (.inr (g, 15)), .inl (iI z)] σ = some (zB (decide (0 ≤ z ∧ z < S 2)), 0, σ) := by
  rw [F37, h, zrg_B, t_iI hz, t_iI (by omega)]
  rw [zdec (show (0 ≤ z ∧ z ≤ S 2 - 1) ↔ (0 ≤ z ∧ z < S 2) by omega)]
theorem zc14 {d g : Nat} {S : zS} {σ : zM} {z : Int} (hB : cB g S σ) (hK : cK g S σ) (w : wB S) (hz : zrn z) : zev (d + 2) 14 [.inr (.inr (g, 1)), .inl (iI z)] σ = some (zB (decide (0 ≤ z ∧ z < S 0) && !aBrk S z.toNat), 0, σ) := by
  have w0 := w.1
  have w1 := w.2.1
  rw [ez_14]
  simp only [zc13 hB.1 ⟨w0, w1⟩ hz, zbs, zBi]
  by_cases q : 0 ≤ z ∧ z < S 0
  · obtain ⟨n, rfl⟩ := zint q.1
    simp only [decide_eq_true q, cond_true, zc145 (show n < 32 by omega), zbs, zBi, hK n (by omega), Int.toNat_natCast, decide_eq_true (show n < (S 0).toNat by omega), Bool.true_and]
    cases aBrk S n
    · exact zgd_t rfl
    · exact zgd_t rfl
  · simp only [decide_eq_false q, cond_false, Bool.false_and]
    exact zgd_t rfl
theorem aAb_s {S : zS} {c : Nat} : aAb S c c = true := by
  show (Nat.beq c c || _) = true
  rw [Nat.beq_refl]
  rfl
theorem zc15 {d g : Nat} {S : zS} {σ : zM} {z : Int} {u : Nat} (hB : cB g S σ) (w : 0 ≤ S 0 ∧ S 0 ≤ 9) (hz : -1 ≤ z ∧ z < S 0) (hu : u < 9) : zev (d + 2) 15 [.inr (.inr (g, 1)), .inl (iI (cE z)), .inl (iI u)] σ = some (zB (aAbI S z u), 0, σ) := by
  rw [ez_15]
  have hc : zrn (cE z) := by unfold cE; split <;> omega
  simp only [zc13 hB.1 w hc, zbs, zBi]
  unfold cE aAbI
  by_cases q : z < 0
  · rw [if_pos q, decide_eq_false (by omega), decide_eq_false (show ¬ 0 ≤ z by omega)]
    exact zgd_t rfl
  · rw [if_neg q, decide_eq_true (by omega), decide_eq_true (show 0 ≤ z by omega)]
    obtain ⟨n, rfl⟩ := zint (show 0 ≤ z by omega)
    simp only [cond_true, zgd_t (iI_ink (k := n) rfl (show n < 9 by omega) (by decide)), iI_Nn (show n ≤ 2147483647 by omega), zc145 (show u < 32 by omega), zbs, zBi, Int.toNat_natCast, Bool.true_and]
    rw [(hB.2 n (by omega)).2.2.2.2 u hu]
    cases aAb S n u
    · exact zgd_t rfl
    · exact zgd_t rfl
theorem zc15n {d g : Nat} {S : zS} {σ : zM} {b u : Nat} (hB : cB g S σ) (w : 0 ≤ S 0 ∧ S 0 ≤ 9) (hb : b < (S 0).toNat) (hu : u < 9) : zev (d + 2) 15 [.inr (.inr (g, 1)), .inl (iI b), .inl (iI u)] σ = some (zB (aAb S b u), 0, σ) := by
  have h := zc15 (d := d) (z := b) (u := u) hB w ⟨by omega, by omega⟩ hu
  have e : cE (b : Int) = b := if_neg (by omega)
  have e2 : aAbI S (b : Int) u = aAb S b u := by
    unfold aAbI
    rw [decide_eq_true (show (0 : Int) ≤ b by omega), Bool.true_and, Int.toNat_natCast]
  rwa [e, e2] at h
theorem zund {k a : Int} : aUnd k a = (decide (a = 0) || (decide (a = k) || (bif decide (a = 2) then (bif decide (k = 3) then true else false) else (bif decide (a = 4) then (bif decide (k = 5) then true else false) else false)))) := by
  unfold aUnd
  by_cases h0 : a = 0 <;> by_cases h1 : a = k <;> by_cases h2 : a = 2 <;> by_cases h3 : k = 3 <;> by_cases h4 : a = 4 <;> by_cases h5 : k = 5 <;> simp [h0, h1, h2, h3, h4, h5] <;> omega
theorem zc146 {d : Nat} {k a : Int} {σ : zM} (hk : 0 ≤ k ∧ k ≤ 5) (ha : 0 ≤ a ∧ a ≤ 5) : zev (d + 1) 146 [.inl (iI k), .inl (iI a)] σ = some (zB (aUnd k a), 0, σ) := by
  have hkk : k = 0 ∨ k = 1 ∨ k = 2 ∨ k = 3 ∨ k = 4 ∨ k = 5 := by omega
  have haa : a = 0 ∨ a = 1 ∨ a = 2 ∨ a = 3 ∨ a = 4 ∨ a = 5 := by omega
  rw [ez_146]
  rcases hkk with rfl | rfl | rfl | rfl | rfl | rfl <;> rcases haa with rfl | rfl | rfl | rfl | rfl | rfl <;> first | exact zgd_t (b := zret 3 1) rfl | exact zgd_t (b := zret 3 0) rfl
theorem zm161 {d : Nat} {k a : Int} {σ : zM} (hk : 0 ≤ k ∧ k ≤ 5) (ha : 0 ≤ a ∧ a ≤ 5) : zev (d + 1) 161 [.inl (iI k), .inl (iI a)] σ = some (zB (aUnd k a), 0, σ) := by
  have hkk : k = 0 ∨ k = 1 ∨ k = 2 ∨ k = 3 ∨ k = 4 ∨ k = 5 := by omega
  have haa : a = 0 ∨ a = 1 ∨ a = 2 ∨ a = 3 ∨ a = 4 ∨ a = 5 := by omega
  rw [ez_161]
  rcases hkk with rfl | rfl | rfl | rfl | rfl | rfl <;> rcases haa with rfl | rfl | rfl | rfl | rfl | rfl <;> first | exact zgd_t (b := zret 3 1) rfl | exact zgd_t (b := zret 3 0) rfl
theorem zm149 {d : Nat} {z : Int} {l h : Int64} {σ : zM} (hz : zrn z) : zev (d + 1) 149 [.inr (.inl (Int32.toInt64 (iI z))), .inr (.inl l), .inr (.inl h)] σ = some (zB (decide (l.toInt ≤ z ∧ z ≤ h.toInt)), 0, σ) := by
  rw [F149, zrg_B, t_iI hz]
theorem zt64 {z : Int} (hz : zrn z) : (Int32.toInt64 (iI z)).toInt = z := by rw [Int32.toInt_toInt64, t_iI hz]
theorem zm155 {d : Nat} {b w : Nat} {σ : zM} : zev (d + 1) 155 [.inl (iI b), .inl (iI w)] σ = some (iI ((7 + 5 * b + w : Nat) : Int), 0, σ) := by
  rw [ez_155]
  show (some (iI 7 + iI 5 * iI b + iI w, 0, σ) : zR) = _
  rw [iI_mul, iI_add, iI_add]
  congr 3
theorem zm177 {d : Nat} {p w : Nat} {σ : zM} : zev (d + 1) 177 [.inl (iI p), .inl (iI w)] σ = some (iI ((52 + 3 * p + w : Nat) : Int), 0, σ) := by
  rw [ez_177]
  show (some (iI 52 + iI 3 * iI p + iI w, 0, σ) : zR) = _
  rw [iI_mul, iI_add, iI_add]
  congr 3
theorem zm156 {d : Nat} {b w : Nat} {S : zS} {σ : zM} (h : mS 61 S σ) (hi : 7 + 5 * b + w < 320) : zev (d + 2) 156 [.inr (.inr (0, 60)), .inl (iI b), .inl (iI w)] σ = some (iI (S (7 + 5 * b + w)), 0, σ) := by
  rw [ez_156]
  simp only [zm155, zbs, zgd_t (iI_ink (k := 7 + 5 * b + w) rfl hi (by decide)), iI_Nn (show 7 + 5 * b + w ≤ 2147483647 by omega), h _ hi]
theorem zm178 {d : Nat} {p w : Nat} {S : zS} {σ : zM} (h : mS 61 S σ) (hi : 52 + 3 * p + w < 320) : zev (d + 2) 178 [.inr (.inr (0, 60)), .inl (iI p), .inl (iI w)] σ = some (iI (S (52 + 3 * p + w)), 0, σ) := by
  rw [ez_178]
  simp only [zm177, zbs, zgd_t (iI_ink (k := 52 + 3 * p + w) rfl hi (by decide)), iI_Nn (show 52 + 3 * p + w ≤ 2147483647 by omega), h _ hi]
theorem zm157 {d : Nat} {b : Nat} {S : zS} {σ : zM} (h : mS 61 S σ) (hi : b < 9) (w : 0 ≤ S (11 + 5 * b) ∧ S (11 + 5 * b) ≤ 1) : zev (d + 3) 157 [.inr (.inr (0, 60)), .inl (iI b)] σ = some (zB (aBrk S b), 0, σ) := by
  rw [ez_157]
  have e := zm156 (d := d) (b := b) (w := 4) h (by omega)
  rw [show 7 + 5 * b + 4 = 11 + 5 * b by omega] at e
  show (Option.bind (zev (d + 2) 156 [.inr (.inr (0, 60)), .inl (iI b), .inl (iI (4 : Nat))] σ) _) = _
  rw [e]
  simp only [zbs]
  unfold aBrk
  rcases (show S (11 + 5 * b) = 0 ∨ S (11 + 5 * b) = 1 by omega) with q | q
  · rw [q]; exact zgd_t rfl
  · rw [q]; exact zgd_t rfl
theorem zm158 {d : Nat} {b : Nat} {S : zS} {σ : zM} (h : mS 61 S σ) (hi : b < 9) : zev (d + 3) 158 [.inr (.inr (0, 60)), .inl (iI b)] σ = some (iI (aPar S b), 0, σ) := by
  rw [ez_158]
  have e := zm156 (d := d) (b := b) (w := 1) h (by omega)
  rw [show 7 + 5 * b + 1 = 8 + 5 * b by omega] at e
  show (Option.bind (zev (d + 2) 156 [.inr (.inr (0, 60)), .inl (iI b), .inl (iI (1 : Nat))] σ) _) = _
  rw [e]
  show (some (iI (S (8 + 5 * b)) - iI 1, 0, σ) : zR) = _
  rw [iI_sub]
  rfl
theorem zm179 {d : Nat} {p : Nat} {S : zS} {σ : zM} (h : mS 61 S σ) (hi : p < 8) : zev (d + 3) 179 [.inr (.inr (0, 60)), .inl (iI p)] σ = some (iI (aSeat S p), 0, σ) := by
  rw [ez_179]
  have e := zm178 (d := d) (p := p) (w := 2) h (by omega)
  rw [show 52 + 3 * p + 2 = 54 + 3 * p by omega] at e
  show (Option.bind (zev (d + 2) 178 [.inr (.inr (0, 60)), .inl (iI p), .inl (iI (2 : Nat))] σ) _) = _
  rw [e]
  show (some (iI (S (54 + 3 * p)) - iI 1, 0, σ) : zR) = _
  rw [iI_sub]
  rfl
theorem zm180 {d : Nat} {p : Nat} {z : Int} {σ : zM} (hi : p < 8) : zev (d + 2) 180 [.inr (.inr (0, 60)), .inl (iI p), .inl (iI z)] σ = some (0, 0, zwI σ 0 61 (54 + 3 * p) (iI (z + 1))) := by
  rw [ez_180]
  show (Option.bind (zev (d + 1) 177 [.inl (iI p), .inl (iI (2 : Nat))] σ) _) = _
  rw [zm177]
  simp only [zbs, zgd_t (iI_ink (k := 54 + 3 * p) (show ((52 + 3 * p + 2 : Nat) : Int) = (54 + 3 * p : Nat) by omega) (show 54 + 3 * p < 320 by omega) (by decide)), iI_Nk (n := 54 + 3 * p) (show ((52 + 3 * p + 2 : Nat) : Int) = (54 + 3 * p : Nat) by omega) (by omega)]
  show (some (0, 0, zwI σ 0 61 (54 + 3 * p) (iI z + iI 1)) : zR) = _
  rw [iI_add]
theorem zm150 {d : Nat} {S : zS} {z : Int} {σ : zM} (h : mS 61 S σ) (w : 0 ≤ S 0 ∧ S 0 ≤ 9) (hz : zrn z) : zev (d + 2) 150 [.inr (.inr (0, 60)), .inl (iI z)] σ = some (zB (decide (0 ≤ z ∧ z < S 0)), 0, σ) := by
  have e := h 0 (by decide)
  rw [F150 (by rw [e, t_iI (by omega)]; omega), e, zrg_B, t_iI hz, t_iI (by omega)]
  rw [zdec (show (0 ≤ z ∧ z ≤ S 0 - 1) ↔ (0 ≤ z ∧ z < S 0) by omega)]
theorem zm151 {d : Nat} {S : zS} {z : Int} {σ : zM} (h : mS 61 S σ) (w : 0 ≤ S 2 ∧ S 2 ≤ 8) (hz : zrn z) : zev (d + 2) 151 [.inr (.inr (0, 60)), .inl (iI z)] σ = some (zB (decide (0 ≤ z ∧ z < S 2)), 0, σ) := by
  have e := h 2 (by decide)
  rw [F151 (by rw [e, t_iI (by omega)]; omega), e, zrg_B, t_iI hz, t_iI (by omega)]
  rw [zdec (show (0 ≤ z ∧ z ≤ S 2 - 1) ↔ (0 ≤ z ∧ z < S 2) by omega)]
theorem mS_w {k : Nat} {S : zS} {σ : zM} {i : Nat} {v : Int} (h : mS k S σ) : mS k (zup S i v) (zwI σ 0 k i (iI v)) := by
  intro j hj
  rw [zrd]
  unfold zup
  by_cases q : j = i
  · rw [if_pos ⟨rfl, rfl, q⟩, if_pos q]
  · rw [if_neg (fun z => q z.2.2), if_neg q]
    exact h j hj
theorem mS_f {k : Nat} {S : zS} {σ τ : zM} (h : mS k S σ) (e : τ.1 0 k = σ.1 0 k) : mS k S τ := fun i hi => by rw [e]; exact h i hi
