theorem zm152 {d : Nat} {x : Int32} {u : Nat} {σ : zM} (hu : u < 32) : zev (d + 1) 152 [.inl x, .inl (iI u)] σ = some (zB (bt x u), 0, σ) := by
  have b1 : ∀ i, i < 32 → bt 1 i = decide (i = 0) := by decide +kernel
  have e : (((x >>> (iI u &&& 31)) &&& 1) = 1) = (bt x u = true) := by
    rw [← nI_iI]
    refine propext ⟨fun h => ?_, fun h => ?_⟩
    · have := congrArg (fun y => bt y 0) h
      simp only [b_and, b_sshr u hu x (show 0 < 32 by decide), b1 0 (by decide)] at this
      simpa [hu] using this
    · refine b_ext fun i hi => ?_
      rw [b_and, b_sshr u hu x hi, b1 i hi]
      by_cases q : i = 0
      · subst q; simp [hu, h]
      · simp [q]
  rw [ez_152]
  show (if ((x >>> (iI u &&& 31)) &&& 1) = 1 then _ else _) = _
  simp only [e]
  cases bt x u
  · exact zgd_t rfl
  · exact zgd_t rfl
theorem zshr {z : Int} {n : Nat} (hz : zrn z) (hn : n < 9) : ((Int32.toUInt32 (iI z) >>> (Int32.toUInt32 (iI n) &&& Int32.toUInt32 31)).toInt32 = 0) = (0 ≤ z ∧ z ≤ 2 ^ n - 1) := by
  have e1 : (Int32.toUInt32 (iI z) >>> (Int32.toUInt32 (iI n) &&& Int32.toUInt32 31)).toInt32.toBitVec.toNat = (z % 4294967296).toNat / 2 ^ n := by
    show (Int32.toUInt32 (iI z) >>> (Int32.toUInt32 (iI n) &&& Int32.toUInt32 31)).toBitVec.toNat = _
    rw [UInt32.toBitVec_shiftRight]
    show ((iI z).toBitVec >>> (((Int32.toUInt32 (iI n) &&& Int32.toUInt32 31)).toBitVec % 32).toNat).toNat = _
    rw [← nI_iI, s_u n (by omega), BitVec.toNat_ushiftRight, Nat.shiftRight_eq_div_pow]
    congr 1
  have e2 : ((Int32.toUInt32 (iI z) >>> (Int32.toUInt32 (iI n) &&& Int32.toUInt32 31)).toInt32 = 0) ↔ (z % 4294967296).toNat / 2 ^ n = 0 := by
    rw [← e1]
    constructor
    · intro h; rw [h]; rfl
    · intro h
      apply Int32.toBitVec_inj.mp
      apply BitVec.eq_of_toNat_eq
      exact h
  refine propext (e2.trans ?_)
  rcases (by omega : n = 0 ∨ n = 1 ∨ n = 2 ∨ n = 3 ∨ n = 4 ∨ n = 5 ∨ n = 6 ∨ n = 7 ∨ n = 8) with rfl | rfl | rfl | rfl | rfl | rfl | rfl | rfl | rfl <;> simp only [Nat.reducePow, Int.reducePow] <;> omega
def aCn (z : Int) : Nat → Nat
  | 0 => 0
  | n + 1 => aCn z n + bif bt (iI z) n then 1 else 0
def oN : Nat → Int32 → Int32 → Option Int32
  | 0, _, _ => none
  | n + 1, a, b => if b = 0 then some a else oN n (a + 1) (b &&& (b - 1))
theorem oN_r {C : zC} {σ : zM} : ∀ (n : Nat) (a b r : Int32) (d0 : Option zV), oN n a b = some r → zrun C zT_204 4 [d0, some (.inl a), some (.inl b)] [] σ = some (r, 0, σ)
  | 0, _, _, _, _, h => by cases h
  | n + 1, a, b, r, d0, h => by
    rw [ez_204_4]
    have h : (if b = 0 then some a else oN n (a + 1) (b &&& (b - 1))) = some r := h
    by_cases q : b = 0
    · rw [if_pos q] at h ⊢
      cases h; rfl
    · rw [if_neg q] at h ⊢
      exact oN_r n (a + 1) _ r none h
theorem oN_c : ∀ z : Nat, z < 256 → oN 9 0 (iI z) = some (iI (aCn z 8 : Nat)) := by decide +kernel
theorem aCn_n : ∀ n : Nat, n < 9 → ∀ z : Nat, z < 2 ^ n → aCn z 8 = aCn z n := by decide +kernel
theorem aCn_l {z : Int} : ∀ n : Nat, aCn z n ≤ n
  | 0 => Nat.le_refl _
  | n + 1 => by
    have := aCn_l (z := z) n
    show aCn z n + (bif bt (iI z) n then 1 else 0) ≤ n + 1
    cases bt (iI z) n
    · rw [cond_false]; omega
    · rw [cond_true]; omega
theorem zm204 {d z : Nat} {σ : zM} (hz : z < 256) : zev (d + 1) 204 [.inl (iI z)] σ = some (iI (aCn z 8 : Nat), 0, σ) := by
  rw [ez_204]
  exact oN_r 9 0 (iI z) _ _ (oN_c z hz)
def zb1 (p : Int32) : Int32 := p - ((Int32.toUInt32 p >>> (Int32.toUInt32 1 &&& Int32.toUInt32 31)).toInt32 &&& 1431655765)
def zb2 (p : Int32) : Int32 := (p &&& 858993459) + ((Int32.toUInt32 p >>> (Int32.toUInt32 2 &&& Int32.toUInt32 31)).toInt32 &&& 858993459)
def zb3 (p : Int32) : Int32 := (p + (Int32.toUInt32 p >>> (Int32.toUInt32 4 &&& Int32.toUInt32 31)).toInt32) &&& 252645135
def zb4 (p : Int32) : Int32 := p + (Int32.toUInt32 p >>> (Int32.toUInt32 8 &&& Int32.toUInt32 31)).toInt32
def zb5 (p : Int32) : Int32 := (p + (Int32.toUInt32 p >>> (Int32.toUInt32 16 &&& Int32.toUInt32 31)).toInt32) &&& 63
theorem zbc_c : ∀ z : Nat, z < 256 → zb5 (zb4 (zb3 (zb2 (zb1 (iI z))))) = iI (aCn z 8 : Nat) := by decide +kernel
theorem zc271 {d z : Nat} {σ : zM} (hz : z < 256) : zev (d + 1) 271 [.inl (iI z)] σ = some (iI (aCn z 8 : Nat), 0, σ) := by
  rw [ez_271, ← zbc_c z hz]
  rfl
def aPy (z : Int) (n : Nat) : Bool := decide ((0 ≤ z ∧ z ≤ 2 ^ n - 1) ∧ aCn z n ≤ 4)
theorem zint8 {z : Int} {n : Nat} (h : 0 ≤ z ∧ z ≤ 2 ^ n - 1) (hn : n < 9) : ∃ m : Nat, z = m ∧ m < 2 ^ n ∧ m < 256 := by
  obtain ⟨m, rfl⟩ := zint h.1
  refine ⟨m, rfl, ?_⟩
  rcases (by omega : n = 0 ∨ n = 1 ∨ n = 2 ∨ n = 3 ∨ n = 4 ∨ n = 5 ∨ n = 6 ∨ n = 7 ∨ n = 8) with rfl | rfl | rfl | rfl | rfl | rfl | rfl | rfl | rfl <;> simp only [Nat.reducePow, Int.reducePow] at h ⊢ <;> omega
theorem zc114 {d : Nat} {S : zS} {z : Int} {σ : zM} (hA : cA 0 S σ) (w : wP S) (hz : zrn z) : zev (d + 2) 114 [.inr (.inr (0, 30)), .inl (iI z)] σ = some (zB (aPy z (S 2).toNat), 0, σ) := by
  have p0 := w.1
  have p1 := w.2.1
  have e := zshr (z := z) (n := (S 2).toNat) hz (by omega)
  rw [Int.toNat_of_nonneg p0] at e
  rw [ez_114]
  simp only [hA.2.2.2.1.1, e]
  unfold aPy
  by_cases q : 0 ≤ z ∧ z ≤ 2 ^ (S 2).toNat - 1
  · obtain ⟨m, rfl, h1, h2⟩ := zint8 q (by omega)
    have e4 : (4 < iI ((aCn m 8 : Nat) : Int)) = ((4 : Int) < (aCn m 8 : Nat)) := by
      have := aCn_l (z := m) 8
      exact iI_lt (a := 4) (by decide) (by omega)
    rw [if_pos q]
    simp only [zc271 (d := d) h2, zbs, e4]
    rw [aCn_n _ (by omega) m h1]
    by_cases q2 : (4 : Int) < (aCn m (S 2).toNat : Nat)
    · rw [if_pos q2, zgd_t (by decide), decide_eq_false (by omega)]; rfl
    · rw [if_neg q2, zgd_t (by decide), decide_eq_true ⟨q, by omega⟩]; rfl
  · rw [if_neg q, zgd_t (by decide), decide_eq_false (fun z => q z.1)]; rfl
theorem zm205 {d : Nat} {S : zS} {z : Int} {σ : zM} (hS : mS 61 S σ) (w : wP S) (hz : zrn z) : zev (d + 2) 205 [.inr (.inr (0, 60)), .inl (iI z)] σ = some (zB (aPy z (S 2).toNat), 0, σ) := by
  have p0 := w.1
  have p1 := w.2.1
  have e1 : ∀ n : Nat, n < 9 → (Int32.toInt64 ((1 <<< (iI n &&& 31)) - 1)).toInt = 2 ^ n - 1 := by decide +kernel
  have e2 := e1 (S 2).toNat (by omega)
  rw [Int.toNat_of_nonneg p0] at e2
  have m1 : zev (d + 1) 149 [.inr (.inl (Int32.toInt64 (iI z))), .inr (.inl 0), .inr (.inl (Int32.toInt64 ((1 <<< (iI (S 2) &&& 31)) - 1)))] σ = some (zB (decide (0 ≤ z ∧ z ≤ 2 ^ (S 2).toNat - 1)), 0, σ) := by
    rw [zm149 hz, e2]; rfl
  rw [ez_205, hS 2 (by decide)]
  simp only [m1, zbs, zBi]
  unfold aPy
  by_cases q : 0 ≤ z ∧ z ≤ 2 ^ (S 2).toNat - 1
  · obtain ⟨m, rfl, h1, h2⟩ := zint8 q (by omega)
    have e4 : (iI ((aCn m 8 : Nat) : Int) < 5) = (((aCn m 8 : Nat) : Int) < 5) := by
      have := aCn_l (z := m) 8
      exact iI_lt (b := 5) (by omega) (by decide)
    rw [decide_eq_true q, cond_true]
    simp only [zm204 (d := d) h2, zbs, e4]
    rw [aCn_n _ (by omega) m h1]
    by_cases q2 : ((aCn m (S 2).toNat : Nat) : Int) < 5
    · rw [if_pos q2, zgd_t (by decide), decide_eq_true ⟨q, by omega⟩]; rfl
    · rw [if_neg q2, zgd_t (by decide), decide_eq_false (by omega)]; rfl
  · rw [decide_eq_false q, cond_false, zgd_t (by decide), decide_eq_false (fun z => q z.1)]; rfl
