theorem z272 {d : Nat} {x y : Int32} {σ : zM} : zev (d + 1) 272 [.inl x, .inl y] σ = some (if x < y then y else x, 0, σ) := (zev_b (j := 272) (f := zmx) rfl).trans rfl
theorem z273 {d : Nat} {x y : Int32} {σ : zM} : zev (d + 1) 273 [.inl x, .inl y] σ = some (if y < x then y else x, 0, σ) := (zev_b (j := 273) (f := zmn) rfl).trans rfl
theorem zc272 {d : Nat} {a b : Int} {σ : zM} (ha : zrn a) (hb : zrn b) : zev (d + 1) 272 [.inl (iI a), .inl (iI b)] σ = some (iI (if a < b then b else a), 0, σ) := by
  rw [z272]
  simp only [iI_lt ha hb]
  by_cases q : a < b
  · rw [if_pos q, if_pos q]
  · rw [if_neg q, if_neg q]
theorem zc273 {d : Nat} {a b : Int} {σ : zM} (ha : zrn a) (hb : zrn b) : zev (d + 1) 273 [.inl (iI a), .inl (iI b)] σ = some (iI (if b < a then b else a), 0, σ) := by
  rw [z273]
  simp only [iI_lt hb ha]
  by_cases q : b < a
  · rw [if_pos q, if_pos q]
  · rw [if_neg q, if_neg q]
theorem iI_d2 {z : Int} (h0 : 0 ≤ z) (h : z ≤ 2147483647) : iI z / 2 = iI (z / 2) := by
  apply Int32.toInt_inj.mp
  rw [Int32.toInt_div_of_ne_right _ _ (by decide), t_iI (by omega), t_iI (by omega), show (2 : Int32).toInt = 2 from by decide]
  exact Int.tdiv_eq_ediv_of_nonneg h0
theorem zmS_f {f f' : Nat → Int32} (h : ∀ i, i < 5 → f i = f' i) (c : Int32) (st : List Int32) : zmS f c st = zmS f' c st := by
  unfold zmS zmF
  rw [h 0 (by decide), h 1 (by decide), h 2 (by decide), h 3 (by decide), h 4 (by decide)]
theorem zmR_f {f f' : Nat → Int32} (h : ∀ i, i < 5 → f i = f' i) (code : Nat → Int32) : ∀ n k st, zmR f code n k st = zmR f' code n k st
  | 0, _, _ => rfl
  | n + 1, k, st => by
    show (zmS f (code k) st).bind _ = (zmS f' (code k) st).bind _
    rw [zmS_f h]
    cases zmS f' (code k) st with
    | none => rfl
    | some q => exact zmR_f h code n (k + 1) q
theorem zmC_f {f f' : Nat → Int32} (h : ∀ i, i < 5 → f i = f' i) (code : Nat → Int32) (k n : Nat) : zmC f code k n = zmC f' code k n := by
  unfold zmC
  rw [zmR_f h]
theorem aHlf_b {S : zS} {b : Nat} (w : wB S) (u : wU S) (hb : b < (S 0).toNat) {n k : Nat} (h : k + n ≤ (S 1).toNat) : 0 ≤ aHlf S b (aFst S b n k) ∧ aHlf S b (aFst S b n k) ≤ 1998 := by
  have w2 := w.2.2 b hb
  have key : ∀ n k, k + n ≤ (S 1).toNat → ∀ j, aFst S b n k = some j → j < (S 1).toNat := by
    intro n
    induction n with
    | zero => intro k _ j hj; cases hj
    | succ n ih =>
      intro k hk j hj
      have hj : (bif aUnd (S (7 + 5 * b)) (S (88 + 4 * k)) && aCnd S b k then some k else aFst S b n (k + 1)) = some j := hj
      cases q : aUnd (S (7 + 5 * b)) (S (88 + 4 * k)) && aCnd S b k
      · rw [q] at hj; exact ih (k + 1) (by omega) j hj
      · rw [q] at hj; cases hj; omega
  cases q : aFst S b n k with
  | none => show 0 ≤ S (10 + 5 * b) ∧ S (10 + 5 * b) ≤ 1998; omega
  | some j =>
    have u2 := u.2.2 j (key n k h j q)
    unfold aHlf
    dsimp only
    split
    · omega
    · split
      · split <;> omega
      · omega
theorem zc66 {d g k b : Nat} {S : zS} {σ : zM} (hU : cU g S σ) (u : wU S) (hk : k < (S 1).toNat) (w : 1 ≤ S (10 + 5 * b) ∧ S (10 + 5 * b) ≤ 999) : zev (d + 2) 66 [.inr (.inr (g, 7)), .inl (iI k), .inl (iI (S (10 + 5 * b)))] σ = some (iI (aHlf S b (some k)), 0, σ) := by
  have u2 := u.2.2 k hk
  have u0 := u.1
  have u1 := u.2.1
  have h := hU.2 k hk
  rw [ez_66]
  simp only [zgd_t (iI_ink (z := k) (k := k) rfl (show k < 8 by omega) (by decide)), iI_Nn (show k ≤ 2147483647 by omega), h.2.1]
  have n16 : (-16 : Int32) = iI (-16) := by decide
  have n17 : (-17 : Int32) = iI (-17) := by decide
  have hc : zrn (cD (S (89 + 4 * k))) := by unfold cD; omega
  simp only [n16, n17, iI_eq hc (show zrn (-16) by decide), iI_eq hc (show zrn (-17) by decide)]
  unfold aHlf cD
  dsimp only
  by_cases q0 : S (89 + 4 * k) = 0
  · rw [if_pos (by omega), if_pos q0, h.2.2.1 (by omega), iI_add]
  · by_cases q1 : S (89 + 4 * k) = 1
    · rw [if_neg (by omega), if_pos (by omega), if_neg q0, if_pos q1, h.2.2.1 (by omega), iI_sub]
      show (Option.bind (zev (d + 1) 272 [.inl (iI 0), _] σ) _) = _
      rw [zc272 (by omega) (by omega), zbs]
      by_cases q2 : S (10 + 5 * b) - S (90 + 4 * k) < 0
      · rw [if_neg (by omega), if_pos q2]
      · by_cases q3 : 0 < S (10 + 5 * b) - S (90 + 4 * k)
        · rw [if_pos q3, if_neg q2]
        · rw [if_neg q3, if_neg q2, show S (10 + 5 * b) - S (90 + 4 * k) = 0 by omega]
    · rw [if_neg (by omega), if_neg (by omega), if_neg q0, if_neg q1]
      rfl
theorem aCnd_s {S : zS} {b k : Nat} {v : Bool} (h : zmC (aFct S b) (aCod S) (aEnd S k) (aEnd S (k + 1) - aEnd S k) = some v) : aCnd S b k = v := by
  unfold aCnd
  rw [h]
  cases v <;> rfl
theorem cU_f {g : Nat} {S : zS} {σ τ : zM} (h : cU g S σ) (e : ∀ k, 7 ≤ k → k ≤ 12 → τ.1 g k = σ.1 g k) : cU g S τ := by
  unfold cU at h ⊢
  rw [e 7 (by decide) (by decide), e 8 (by decide) (by decide), e 9 (by decide) (by decide), e 10 (by decide) (by decide), e 11 (by decide) (by decide), e 12 (by decide) (by decide)]
  exact h
theorem zc65_12 {d g b : Nat} {S : zS} (w : wB S) (u : wU S) (hb : b < (S 0).toNat) : ∀ (n k : Nat) (σ : zM), cU g S σ → (∀ i, i < 5 → σ.1 g 13 i = aFct S b i) → k + n = (S 1).toNat → ∃ τ, zrun (zev (d + 2)) zT_65 12 [some (.inr (.inr (g, 7))), some (.inl (iI (S (7 + 5 * b)))), some (.inl (iI (S (10 + 5 * b)))), some (.inl (iI (cEn (σ.1 g 11) k : Nat))), some (.inl (iI k))] [] σ = some (iI (aHlf S b (aFst S b n k)), 0, τ) ∧ zFr (Wk g 14) σ τ
  | 0, k, σ, hU, hf, hk => by
    have u0 := u.1
    have u1 := u.2.1
    rw [ez_65_12, hU.1, if_neg (by rw [iI_lt (by omega) (by omega)]; omega)]
    exact ⟨σ, rfl, zFr_r σ⟩
  | n + 1, k, σ, hU, hf, hk => by
    have u0 := u.1
    have u1 := u.2.1
    have w2 := w.2.2 b hb
    have u2 := u.2.2 k (by omega)
    have h := hU.2 k (by omega)
    have hki : iI (k : Int) + 1 = iI ((k + 1 : Nat) : Int) := by rw [iI_a1]; congr 1 <;> omega
    rw [ez_65_12, hU.1, if_pos (by rw [iI_lt (by omega) (by omega)]; omega)]
    simp only [zgd_t (iI_ink (z := k) (k := k) rfl (show k < 8 by omega) (by decide)), iI_Nn (show k ≤ 2147483647 by omega), h.1, zc146 (show 0 ≤ S (7 + 5 * b) ∧ S (7 + 5 * b) ≤ 5 by omega) (show 0 ≤ S (88 + 4 * k) ∧ S (88 + 4 * k) ≤ 5 by omega), zbs, zBi, h.2.2.2.1, hki]
    cases q1 : aUnd (S (7 + 5 * b)) (S (88 + 4 * k))
    · rw [cond_false]
      have e : aFst S b (n + 1) k = aFst S b n (k + 1) := by
        show (bif aUnd (S (7 + 5 * b)) (S (88 + 4 * k)) && aCnd S b k then some k else aFst S b n (k + 1)) = _
        rw [q1]; rfl
      rw [e]
      exact zc65_12 w u hb n (k + 1) σ hU hf (by omega)
    · rw [cond_true]
      have h5 := h.2.2.2.2.1
      have h6 := h.2.2.2.2.2.1
      have ee : cEn (σ.1 g 11) (k + 1) = cEn (σ.1 g 11) k + (cEn (σ.1 g 11) (k + 1) - cEn (σ.1 g 11) k) := by omega
      obtain ⟨τ, c1, c2⟩ := zc67 (d := d) (g := g) (k := cEn (σ.1 g 11) k) (n := cEn (σ.1 g 11) (k + 1) - cEn (σ.1 g 11) k) (σ := σ) (by omega)
      rw [← ee] at c1
      have c3 := h.2.2.2.2.2.2 (σ.1 g 13)
      rw [zmC_f hf] at c3
      rw [c1]
      have hU' : cU g S τ := cU_f hU fun k _ _ => zFr_f c2 (fun i => by omega)
      have h' := hU'.2 k (by omega)
      simp only [zbs, zBi, h'.2.2.2.1]
      have hcn := aCnd_s c3
      cases q2 : zcC (σ.1 g 13) (σ.1 g 12) (cEn (σ.1 g 11) k) (cEn (σ.1 g 11) (k + 1) - cEn (σ.1 g 11) k)
      · rw [cond_false]
        rw [q2] at hcn
        have e : aFst S b (n + 1) k = aFst S b n (k + 1) := by
          show (bif aUnd (S (7 + 5 * b)) (S (88 + 4 * k)) && aCnd S b k then some k else aFst S b n (k + 1)) = _
          rw [hcn, Bool.and_false]; rfl
        rw [e]
        obtain ⟨τ2, b1, b2⟩ := zc65_12 (d := d) (g := g) w u hb n (k + 1) τ hU' (fun i hi => by rw [zFr_f c2 (fun i => by omega)]; exact hf i hi) (by omega)
        exact ⟨τ2, b1, zFr_tt c2 b2⟩
      · rw [cond_true]
        rw [q2] at hcn
        have e : aFst S b (n + 1) k = some k := by
          show (bif aUnd (S (7 + 5 * b)) (S (88 + 4 * k)) && aCnd S b k then some k else aFst S b n (k + 1)) = _
          rw [q1, hcn]; rfl
        rw [e, zc66 hU' u (by omega) (by omega)]
        exact ⟨τ, rfl, c2⟩
abbrev Wh (g : Nat) : Nat → Nat → Nat → Prop := fun g' k' _ => g' = g ∧ (k' = 13 ∨ k' = 14)
theorem zc64 {d g : Nat} {p0 p1 p2 p3 p4 : Int32} {σ : zM} : zev (d + 1) 64 [.inr (.inr (g, 7)), .inl p0, .inl p1, .inl p2, .inl p3, .inl p4] σ = some (0, 0, zwI (zwI (zwI (zwI (zwI σ g 13 0 p0) g 13 1 p1) g 13 2 p2) g 13 3 p3) g 13 4 p4) := by
  rw [ez_64]
theorem cB_f {g : Nat} {S : zS} {σ τ : zM} (h : cB g S σ) (e : ∀ k, 1 ≤ k → k ≤ 6 → τ.1 g k = σ.1 g k) : cB g S τ := by
  unfold cB at h ⊢
  rw [e 1 (by decide) (by decide), e 2 (by decide) (by decide), e 3 (by decide) (by decide), e 4 (by decide) (by decide), e 5 (by decide) (by decide), e 6 (by decide) (by decide)]
  exact h
theorem aKnd_d {S : zS} {b : Nat} {h : Int} : aKnd S b h = if S (7 + 5 * b) = 1 then h + 10 * S 4 else if S (7 + 5 * b) = 2 then h / 2 else if S (7 + 5 * b) = 3 then (if h / 2 - S (9 + 5 * b) < 0 then 0 else h / 2 - S (9 + 5 * b)) else if S (7 + 5 * b) = 4 then h + 50 else 2 * (h + 50) := rfl
theorem aHold_b {S : zS} {b : Nat} (w : wB S) (v : wW S) (u : wU S) (hb : b < (S 0).toNat) : 0 ≤ aHold S b ∧ aHold S b ≤ 4096 := by
  have h := aHlf_b w u hb (n := (S 1).toNat) (k := 0) (by omega)
  have w2 := w.2.2 b hb
  obtain ⟨v1, v2, -, -⟩ := v
  unfold aHold aHld
  rw [aKnd_d]
  generalize aHlf S b (aFst S b ((S 1).toNat) 0) = hh at h ⊢
  split
  · omega
  · split
    · omega
    · split
      · split <;> omega
      · split <;> omega
theorem zc16 {d g b : Nat} {S : zS} {σ : zM} (hB : cB g S σ) (hW : cW g S σ) (hU : cU g S σ) (w : wB S) (v : wW S) (u : wU S) (hb : b < (S 0).toNat) : ∃ τ, zev (d + 4) 16 [.inr (.inr (g, 1)), .inl (iI b)] σ = some (iI (aHold S b), 0, τ) ∧ zFr (Wh g) σ τ := by
  have w0 := w.1
  have w1 := w.2.1
  have w2 := w.2.2 b hb
  have h := hB.2 b hb
  have hl := aHlf_b w u hb (n := (S 1).toNat) (k := 0) (by omega)
  rw [ez_16]
  simp only [zgd_t (iI_ink (z := b) (k := b) rfl (show b < 9 by omega) (by decide)), iI_Nn (show b ≤ 2147483647 by omega), hW.1, hW.2, h.2.2.1, h.2.2.2.1, zc64, zbs]
  generalize hσ0 : zwI (zwI (zwI (zwI (zwI σ g 13 0 (iI (S 4))) g 13 1 (iI (S 5))) g 13 2 (iI (S (9 + 5 * b)))) g 13 3 (iI (S (10 + 5 * b)))) g 13 4 (iI b) = σ0
  have f0 : zFr (Wh g) σ σ0 := by
    subst hσ0
    exact zFr_tt (zFr_tt (zFr_tt (zFr_tt (zFr_w ⟨rfl, Or.inl rfl⟩) (zFr_w ⟨rfl, Or.inl rfl⟩)) (zFr_w ⟨rfl, Or.inl rfl⟩)) (zFr_w ⟨rfl, Or.inl rfl⟩)) (zFr_w ⟨rfl, Or.inl rfl⟩)
  have hf : ∀ i, i < 5 → σ0.1 g 13 i = aFct S b i := by
    intro i hi
    subst hσ0
    rcases (by omega : i = 0 ∨ i = 1 ∨ i = 2 ∨ i = 3 ∨ i = 4) with rfl | rfl | rfl | rfl | rfl <;> simp [zrd, aFct]
  have hU0 : cU g S σ0 := cU_f hU fun k _ _ => zFr_f f0 (fun i => by omega)
  have hB0 : cB g S σ0 := cB_f hB fun k _ _ => zFr_f f0 (fun i => by omega)
  have h0 := hB0.2 b hb
  have e65 : ∃ τ, zev (d + 3) 65 [.inr (.inr (g, 7)), .inl (iI (S (7 + 5 * b)))] σ0 = some (iI (aHld S b), 0, τ) ∧ zFr (Wk g 14) σ0 τ := by
    rw [ez_65]
    show ∃ τ, zrun _ _ _ [_, _, some (.inl (σ0.1 g 13 3)), _, _] _ _ = _ ∧ _
    rw [hf 3 (by decide)]
    exact zc65_12 w u hb ((S 1).toNat) 0 σ0 hU0 hf (by omega)
  obtain ⟨τ, c1, c2⟩ := e65
  have f1 : zFr (Wh g) σ τ := zFr_tt f0 (zFr_i c2 (fun _ _ _ q => ⟨q.1, Or.inr q.2⟩))
  have hB1 : cB g S τ := cB_f hB fun k _ _ => zFr_f f1 (fun i => by omega)
  have h1 := hB1.2 b hb
  have hW1 : τ.1 g 1 7 = iI (S 4) := by rw [zFr_f f1 (fun i => by omega)]; exact hW.1
  refine ⟨τ, ?_, f1⟩
  simp only [h0.1, c1, zbs, h1.1, h1.2.2.1, hW1]
  have hld : 0 ≤ aHld S b ∧ aHld S b ≤ 1998 := hl
  unfold aHold
  rw [aKnd_d]
  generalize aHld S b = hh at hld ⊢
  obtain ⟨v1, v2, -, -⟩ := v
  generalize hkk : S (7 + 5 * b) = kk at w2 ⊢
  rcases (show kk = 1 ∨ kk = 2 ∨ kk = 3 ∨ kk = 4 ∨ kk = 5 by omega) with rfl | rfl | rfl | rfl | rfl
  · show (some (iI hh + iI 10 * iI (S 4), 0, τ) : zR) = _
    rw [iI_mul, iI_add]; rfl
  · show (some (iI hh / 2, 0, τ) : zR) = _
    rw [iI_d2 hld.1 (by omega)]; rfl
  · show (Option.bind (zev (d + 3) 272 [.inl (iI 0), .inl (iI hh / 2 - iI (S (9 + 5 * b)))] τ) _) = _
    rw [iI_d2 hld.1 (by omega), iI_sub, zc272 (by omega) (by omega), zbs]
    show (some (iI (if 0 < hh / 2 - S (9 + 5 * b) then hh / 2 - S (9 + 5 * b) else 0), 0, τ) : zR) = some (iI (if hh / 2 - S (9 + 5 * b) < 0 then 0 else hh / 2 - S (9 + 5 * b)), 0, τ)
    congr 2
    split <;> split <;> first | rfl | (congr 1 <;> omega)
  · show (some (iI hh + iI 50, 0, τ) : zR) = _
    rw [iI_add]; rfl
  · show (some (iI 2 * (iI hh + iI 50), 0, τ) : zR) = _
    rw [iI_add, iI_mul]; rfl
