theorem iI_lt320 {z : Int} (hz : zrn z) : (iI z < 320) = (z < 320) := iI_lt (b := 320) hz (by decide)
theorem zm153 {d : Nat} {S : zS} {σ : zM} (h : mS 61 S σ) : ∃ τ, zev (d + 1) 153 [.inr (.inr (0, 60))] σ = some (0, 0, τ) ∧ zFr (Wk 0 63) σ τ ∧ mS 63 S τ := by
  have key : ∀ n k (τ0 : zM), k + n = 320 → zFr (Wk 0 63) σ τ0 → (∀ i, i < k → τ0.1 0 63 i = iI (S i)) → ∃ τ, zrun (zev d) zT_153 2 [some (.inr (.inr (0, 60))), some (.inl (iI k))] [] τ0 = some (0, 0, τ) ∧ zFr (Wk 0 63) σ τ ∧ mS 63 S τ := by
    intro n
    induction n with
    | zero =>
      intro k τ0 hk f hs
      rw [ez_153_2, if_neg (by rw [iI_lt320 (by omega)]; omega)]
      exact ⟨τ0, rfl, f, fun i hi => hs i (by omega)⟩
    | succ n ih =>
      intro k τ0 hk f hs
      rw [ez_153_2, if_pos (by rw [iI_lt320 (by omega)]; omega)]
      simp only [zgd_t (iI_ink (z := k) (k := k) rfl (show k < 320 by omega) (by decide)), iI_Nn (show k ≤ 2147483647 by omega), hki1]
      refine ih (k + 1) _ (by omega) (zFr_tt f (zFr_w ⟨rfl, rfl⟩)) (fun i hi => ?_)
      by_cases e : i = k
      · subst e
        rw [zfs, f.1 _ _ _ (by omega)]
        exact h i (by omega)
      · rw [zfe (fun z => e z.2.2)]
        exact hs i (by omega)
  rw [ez_153]
  exact key 320 0 σ rfl (zFr_r σ) (fun i hi => absurd hi (Nat.not_lt_zero _))
theorem zm154 {d : Nat} {S : zS} {σ : zM} (h : mS 63 S σ) : ∃ τ, zev (d + 1) 154 [.inr (.inr (0, 60))] σ = some (0, 0, τ) ∧ zFr (Wk 0 61) σ τ ∧ mS 61 S τ := by
  have key : ∀ n k (τ0 : zM), k + n = 320 → zFr (Wk 0 61) σ τ0 → (∀ i, i < k → τ0.1 0 61 i = iI (S i)) → ∃ τ, zrun (zev d) zT_154 2 [some (.inr (.inr (0, 60))), some (.inl (iI k))] [] τ0 = some (0, 0, τ) ∧ zFr (Wk 0 61) σ τ ∧ mS 61 S τ := by
    intro n
    induction n with
    | zero =>
      intro k τ0 hk f hs
      rw [ez_154_2, if_neg (by rw [iI_lt320 (by omega)]; omega)]
      exact ⟨τ0, rfl, f, fun i hi => hs i (by omega)⟩
    | succ n ih =>
      intro k τ0 hk f hs
      rw [ez_154_2, if_pos (by rw [iI_lt320 (by omega)]; omega)]
      simp only [zgd_t (iI_ink (z := k) (k := k) rfl (show k < 320 by omega) (by decide)), iI_Nn (show k ≤ 2147483647 by omega), hki1]
      refine ih (k + 1) _ (by omega) (zFr_tt f (zFr_w ⟨rfl, rfl⟩)) (fun i hi => ?_)
      by_cases e : i = k
      · subst e
        rw [zfs, f.1 _ _ _ (by omega)]
        exact h i (by omega)
      · rw [zfe (fun z => e z.2.2)]
        exact hs i (by omega)
  rw [ez_154]
  exact key 320 0 σ rfl (zFr_r σ) (fun i hi => absurd hi (Nat.not_lt_zero _))
def aStd (S : zS) (x : Int) : Nat → Int
  | 0 => 0
  | n + 1 => if S (53 + 3 * n) = x ∧ 0 ≤ aSeat S n then aStd S x n + S (52 + 3 * n) else aStd S x n
theorem aStd_b {S : zS} {x : Int} (w : wP S) : ∀ (n : Nat), n ≤ (S 2).toNat → 0 ≤ aStd S x n ∧ aStd S x n ≤ 200 * n
  | 0, _ => ⟨by show (0 : Int) ≤ 0; omega, by show (0 : Int) ≤ 200 * ((0 : Nat) : Int); omega⟩
  | n + 1, hn => by
    have h := aStd_b (x := x) w n (by omega)
    have w2 := w.2.2 n (by omega)
    show 0 ≤ (if S (53 + 3 * n) = x ∧ 0 ≤ aSeat S n then aStd S x n + S (52 + 3 * n) else aStd S x n) ∧ (if S (53 + 3 * n) = x ∧ 0 ≤ aSeat S n then aStd S x n + S (52 + 3 * n) else aStd S x n) ≤ 200 * ((n + 1 : Nat) : Int)
    split <;> omega
theorem zc38 {d g : Nat} {S : zS} {σ : zM} {x : Int} (hP : cP g S σ) (wb : wB S) (w : wP S) (hx : 0 ≤ x ∧ x ≤ 1) : zev (d + 1) 38 [.inr (.inr (g, 15)), .inl (iI x)] σ = some (iI (aStd S x ((S 2).toNat)), 0, σ) := by
  have b1 := wb.2.1
  have w0 := w.1
  have w1 := w.2.1
  have key : ∀ i, i ≤ (S 2).toNat → zrun (zev d) zT_38 4 [some (.inr (.inr (g, 15))), some (.inl (iI x)), some (.inl (iI (aStd S x i))), some (.inl (iI i))] [] σ = some (iI (aStd S x ((S 2).toNat)), 0, σ) := by
    intro i hi
    refine zloop (n := (S 2).toNat) (P := fun i => zrun (zev d) zT_38 4 [some (.inr (.inr (g, 15))), some (.inl (iI x)), some (.inl (iI (aStd S x i))), some (.inl (iI i))] [] σ = some (iI (aStd S x ((S 2).toNat)), 0, σ)) ?_ ?_ hi
    · rw [ez_38_4, hP.1, if_neg (by rw [iI_lt (by omega) (by omega)]; omega)]
    · intro i hi ih
      have hp := hP.2 i hi
      have w2 := w.2.2 i hi
      have hr := aSeat_r w hi
      have e : aStd S x (i + 1) = if S (53 + 3 * i) = x ∧ 0 ≤ aSeat S i then aStd S x i + S (52 + 3 * i) else aStd S x i := rfl
      have hcz : zrn (cE (aSeat S i)) := by unfold cE; split <;> omega
      rw [ez_38_4, hP.1, if_pos (by rw [iI_lt (by omega) (by omega)]; omega)]
      simp only [zgd_t (iI_ink (z := i) (k := i) rfl (show i < 8 by omega) (by decide)), iI_Nn (show i ≤ 2147483647 by omega), hp.1, hp.2.1, hp.2.2, iI_eq (show zrn (S (53 + 3 * i)) by omega) (show zrn x by omega), iI_n9 hcz, hki1, iI_add]
      by_cases q1 : S (53 + 3 * i) = x
      · rw [if_pos q1]
        by_cases q2 : aSeat S i < 0
        · rw [if_neg (fun z => by omega)] at e
          rw [if_pos (show cE (aSeat S i) = -9 from if_pos q2)]
          rw [e] at ih
          exact ih
        · rw [if_pos ⟨q1, by omega⟩] at e
          rw [if_neg (by rw [show cE (aSeat S i) = aSeat S i from if_neg q2]; omega)]
          rw [e] at ih
          exact ih
      · rw [if_neg (fun z => q1 z.1)] at e
        rw [if_neg q1]
        rw [e] at ih
        exact ih
  rw [ez_38]
  exact key 0 (by omega)
abbrev W67 : Nat → Nat → Nat → Prop := fun g k _ => g = 0 ∧ (k = 61 ∨ k = 63 ∨ k = 64 ∨ k = 65 ∨ k = 66 ∨ k = 67)
theorem zm193_25 {d : Nat} {S T : zS} (wb : wB T) (w : wP T) : ∀ (n k : Nat) (σ : zM) (d1 : Option zV), k + n = (T 2).toNat → mS 61 T σ → mS 63 S σ → (∀ x : Nat, x ≤ 1 → σ.1 0 67 x = iI (aStd T x k)) → ∃ τ, zrun (zev (d + 3)) zT_193 25 [some (.inr (.inr (0, 60))), d1, some (.inl (iI k))] [] σ = some (0, 0, τ) ∧ zFr W67 σ τ ∧ mS 61 S τ ∧ ∀ x : Nat, x ≤ 1 → τ.1 0 67 x = iI (aStd T x ((T 2).toNat))
  | 0, k, σ, d1, hk, hT, hS, hx => by
    have w0 := w.1
    have w1 := w.2.1
    have ek : k = (T 2).toNat := by omega
    subst ek
    rw [ez_193_25, hT 2 (by decide), if_neg (by rw [iI_lt (by omega) (by omega)]; omega)]
    obtain ⟨τ, c1, c2, c3⟩ := zm154 (d := d + 2) hS
    rw [c1]
    exact ⟨τ, rfl, zFr_i c2 fun _ _ _ q => ⟨q.1, Or.inl q.2⟩, c3, fun x hx1 => by rw [c2.1 _ _ _ (by omega)]; exact hx x hx1⟩
  | n + 1, k, σ, d1, hk, hT, hS, hx => by
    have b1 := wb.2.1
    have w0 := w.1
    have w1 := w.2.1
    have w2 := w.2.2 k (by omega)
    have hr := aSeat_r w (show k < (T 2).toNat by omega)
    have e1 := zm178 (d := d + 1) (p := k) (w := 1) hT (by omega)
    rw [show 52 + 3 * k + 1 = 53 + 3 * k by omega] at e1
    have e1 : zev (d + 3) 178 [.inr (.inr (0, 60)), .inl (iI k), .inl 1] σ = _ := e1
    have e0 := zm178 (d := d + 1) (p := k) (w := 0) hT (by omega)
    have e0 : zev (d + 3) 178 [.inr (.inr (0, 60)), .inl (iI k), .inl 0] σ = some (iI (T (52 + 3 * k)), 0, σ) := e0
    obtain ⟨s, hs⟩ := zint (show 0 ≤ T (53 + 3 * k) by omega)
    have hs2 : s < 2 := by omega
    have e : ∀ x : Nat, aStd T x (k + 1) = if T (53 + 3 * k) = x ∧ 0 ≤ aSeat T k then aStd T x k + T (52 + 3 * k) else aStd T x k := fun x => rfl
    have hN : (T 2).toNat ≤ 8 := by omega
    rw [ez_193_25, hT 2 (by decide), if_pos (by rw [iI_lt (by omega) (by omega)]; omega), e1, hs]
    have h79 := zm179 (d := d) hT (show k < 8 by omega)
    simp only [zbs, zgd_t (iI_ink (z := s) (k := s) rfl hs2 (by decide)), iI_Nn (show s ≤ 2147483647 by omega), h79, hx s (by omega), e0, hki1]
    have step : ∀ (v : Int), (v = if 0 ≤ aSeat T k then T (52 + 3 * k) else 0) → ∃ τ, zrun (zev (d + 3)) zT_193 25 [some (.inr (.inr (0, 60))), none, some (.inl (iI ((k + 1 : Nat) : Int)))] [] (zwI σ 0 67 s (iI (aStd T s k) + iI v)) = some (0, 0, τ) ∧ zFr W67 σ τ ∧ mS 61 S τ ∧ ∀ x : Nat, x ≤ 1 → τ.1 0 67 x = iI (aStd T x ((T 2).toNat)) := by
      intro v hv
      obtain ⟨τ, g1, g2, g3, g4⟩ := zm193_25 (d := d) wb w n (k + 1) (zwI σ 0 67 s (iI (aStd T s k) + iI v)) none (by omega) (mS_f hT (zfn (by omega))) (mS_f hS (zfn (by omega))) (fun x hx1 => by
        rw [e x, hs]
        by_cases q : x = s
        · subst q
          rw [zfs, iI_add, hv]
          by_cases q2 : 0 ≤ aSeat T k
          · rw [if_pos q2, if_pos ⟨rfl, q2⟩]
          · rw [if_neg q2, if_neg (fun z => q2 z.2), Int.add_zero]
        · rw [zfe (fun z => q z.2.2), if_neg (fun z => by have := z.1; omega)]
          exact hx x hx1)
      exact ⟨τ, g1, zFr_tt (zFr_w ⟨rfl, by omega⟩) g2, g3, g4⟩
    by_cases q : aSeat T k < 0
    · rw [if_pos (by rw [iI_lt0 (by omega)]; exact q)]
      exact step 0 (by rw [if_neg (by omega)])
    · rw [if_neg (by rw [iI_lt0 (by omega)]; exact q)]
      exact step (T (52 + 3 * k)) (by rw [if_pos (by omega)])
theorem zm193 {d : Nat} {S : zS} {σ : zM} (hS : mS 61 S σ) (wa : wA S) : ∃ τ, zev (d + 9) 193 [.inr (.inr (0, 60))] σ = some (0, 0, τ) ∧ zFr W67 σ τ ∧ mS 61 S τ ∧ ∀ x : Nat, x ≤ 1 → τ.1 0 67 x = iI (aStd (aFl 9 S).1 x (((aFl 9 S).1 2).toNat)) := by
  rw [ez_193]
  obtain ⟨τ1, a1, a2, a3⟩ := zm153 (d := d + 7) hS
  obtain ⟨τ2, b1, b2, b3⟩ := zm190 (d := d) (mS_g hS a2 (fun i => by omega)) wa
  have h63 : mS 63 S τ2 := mS_f a3 (zFr_f b2 (fun i => by omega))
  simp only [a1, b1, zbs]
  obtain ⟨τ3, c1, c2, c3, c4⟩ := zm193_25 (d := d + 5) (S := S) (T := (aFl 9 S).1) (wA_fl 9 wa).1 (wA_fl 9 wa).2.2.1 (((aFl 9 S).1 2).toNat) 0 (zwI (zwI τ2 0 67 0 0) 0 67 1 0) (some (.inl (iI (aFl 9 S).2))) (by omega) (mS_f (mS_f b3 (zfn (by omega))) (zfn (by omega))) (mS_f (mS_f h63 (zfn (by omega))) (zfn (by omega))) (fun x hx => by
    rcases (by omega : x = 0 ∨ x = 1) with rfl | rfl
    · rw [zfe (by omega), zfs]; rfl
    · rw [zfs]; rfl)
  refine ⟨τ3, c1, ?_, c3, c4⟩
  exact zFr_tt (zFr_i a2 fun _ _ _ q => ⟨q.1, by omega⟩) (zFr_tt (zFr_i b2 fun _ _ _ q => ⟨q.1, by omega⟩) (zFr_tt (zFr_tt (zFr_w ⟨rfl, by omega⟩) (zFr_w ⟨rfl, by omega⟩)) c2))
