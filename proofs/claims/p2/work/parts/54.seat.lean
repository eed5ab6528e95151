def aSx (F : Nat → Option (List Nat)) (brk : Nat → Bool) : Nat → Nat → Option (List Nat)
  | 0, _ => none
  | m + 1, b => bif brk b then aSx F brk m (b + 1) else match F b with
    | some l => some (b :: l)
    | none => aSx F brk m (b + 1)
theorem aSx_c {F G : Nat → Option (List Nat)} {p q : Nat → Bool} : ∀ (m b : Nat), (∀ i, b ≤ i → i < b + m → p i = q i ∧ F i = G i) → aSx F p m b = aSx G q m b
  | 0, _, _ => rfl
  | m + 1, b, h => by
    have ih := aSx_c m (b + 1) (fun i h1 h2 => h i (by omega) (by omega))
    have h0 := h b (by omega) (by omega)
    unfold aSx
    rw [h0.1, h0.2, ih]
theorem aSx_n {F : Nat → Option (List Nat)} {p : Nat → Bool} : ∀ (m b : Nat), (∀ i, b ≤ i → i < b + m → F i = none) → aSx F p m b = none
  | 0, _, _ => rfl
  | m + 1, b, h => by
    have ih := aSx_n (p := p) m (b + 1) (fun i h1 h2 => h i (by omega) (by omega))
    unfold aSx
    rw [h b (by omega) (by omega), ih]
    cases p b <;> rfl
def aSf (P : Nat → Nat) : Nat → Nat → zS → Option (List Nat)
  | 0, _, T => bif aCk T then none else some []
  | n + 1, k, T => aSx (fun b => aSf P n (k + 1) (aSit T (P k) b)) (aBrk T) ((T 0).toNat) 0
def aGr (P : Nat → Nat) (n k : Nat) (T U : zS) : Prop := ∀ i, (∀ j, k ≤ j → j < k + n → i ≠ 54 + 3 * P j) → U i = T i
theorem aGr_sit {P : Nat → Nat} {n k : Nat} {T U : zS} (h : aGr P (n + 1) k T U) (z : Int) : aGr P n (k + 1) (aSit T (P k) z) (aSit U (P k) z) := fun i hi => by
  by_cases q : i = 54 + 3 * P k
  · subst q
    unfold aSit
    rw [zup_s, zup_s]
  · rw [aSit_n q, aSit_n q]
    refine h i (fun j h1 h2 => ?_)
    by_cases q2 : j = k
    · subst q2; exact q
    · exact hi j (by omega) (by omega)
theorem aGr_up {P : Nat → Nat} {n k : Nat} {T U V : zS} {z : Int} (h : aGr P (n + 1) k T U) (g : aGr P n (k + 1) (aSit U (P k) z) V) : aGr P (n + 1) k T V := fun i hi => by
  rw [g i (fun j h1 h2 => hi j (by omega) (by omega)), aSit_n (hi k (by omega) (by omega))]
  exact h i hi
theorem aSf_c {P : Nat → Nat} : ∀ (n k : Nat) {T U : zS}, T 0 ≤ 9 → aGr P n k T U → aSf P n k U = aSf P n k T
  | 0, k, T, U, _, h => by
    have : U = T := funext fun i => h i (fun j h1 h2 => by omega)
    rw [this]
  | n + 1, k, T, U, h9, h => by
    have h0 : U 0 = T 0 := h 0 (fun j _ _ => by omega)
    unfold aSf
    rw [h0]
    refine aSx_c _ _ fun i h1 h2 => ⟨?_, ?_⟩
    · unfold aBrk
      rw [h (11 + 5 * i) (fun j _ _ => by omega)]
    · exact aSf_c n (k + 1) (by rw [aSit_n (by omega)]; exact h9) (aGr_sit h i)
theorem aSx_l {F : Nat → Option (List Nat)} {p : Nat → Bool} {n N : Nat} (hF : ∀ b l, F b = some l → l.length = n ∧ ∀ y, y ∈ l → y < N) : ∀ (m b : Nat) (l : List Nat), b + m ≤ N → aSx F p m b = some l → l.length = n + 1 ∧ ∀ y, y ∈ l → y < N
  | 0, _, _, _, h => by cases h
  | m + 1, b, l, hb, h => by
    unfold aSx at h
    cases q : p b
    · rw [q, cond_false] at h
      cases q2 : F b with
      | none =>
        rw [q2] at h
        exact aSx_l hF m (b + 1) l (by omega) h
      | some l' =>
        rw [q2] at h
        have h : some (b :: l') = some l := h
        cases h
        have := hF b l' q2
        refine ⟨by rw [List.length_cons, this.1], fun y hy => ?_⟩
        rcases List.mem_cons.mp hy with rfl | hy
        · omega
        · exact this.2 y hy
    · rw [q, cond_true] at h
      exact aSx_l hF m (b + 1) l (by omega) h
theorem aSf_l {P : Nat → Nat} : ∀ (n k : Nat) {T : zS} (l : List Nat), aSf P n k T = some l → l.length = n ∧ ∀ y, y ∈ l → y < (T 0).toNat
  | 0, k, T, l, h => by
    have h : (bif aCk T then none else some []) = some l := h
    cases q : aCk T
    · rw [q] at h; cases h; exact ⟨rfl, fun y hy => by cases hy⟩
    · rw [q] at h; cases h
  | n + 1, k, T, l, h => by
    refine aSx_l (n := n) (N := (T 0).toNat) (fun b l h => ?_) ((T 0).toNat) 0 l (by omega) h
    have := aSf_l n (k + 1) l h
    rw [aSit_n (by omega)] at this
    exact this
theorem aCk_i {T : zS} (h9 : T 0 ≤ 9) : aCk T = true ↔ ∃ b, b < (T 0).toNat ∧ aSp T b < 0 ∧ aBrk T b = false := by
  unfold aCk
  rw [Bool.not_eq_true', decide_eq_false_iff_not, zcr_0 (by omega)]
  constructor
  · intro h
    apply Classical.byContradiction
    intro h2
    apply h
    intro b hb
    unfold aCr
    by_cases q1 : aSp T b < 0
    · cases q2 : aBrk T b
      · exact absurd ⟨b, hb, q1, q2⟩ h2
      · rw [Bool.not_true, Bool.and_false]
    · rw [decide_eq_false q1, Bool.false_and]
  · rintro ⟨b, h1, h2, h3⟩ h
    have := h b h1
    unfold aCr at this
    rw [decide_eq_true h2, h3] at this
    cases this
theorem aCk_up {T : zS} {p b : Nat} (w : wA T) (hp : p < (T 2).toNat) (h : aSeat T p < 0) (hb : b < (T 0).toNat) (hc : aCk T = true) : aCk (aSit T p b) = true := by
  have b1 := w.1.2.1
  have e0 : aSit T p b 0 = T 0 := aSit_n (by omega)
  obtain ⟨u, h1, h2, h3⟩ := (aCk_i b1).mp hc
  refine (aCk_i (by rw [e0]; exact b1)).mpr ⟨u, by rw [e0]; exact h1, ?_, ?_⟩
  · rw [aSp_sit0 w hp h hb u h1]
    have := (w.2.2.1.2.2 p hp).1
    unfold aLd
    cases aAbI T b u
    · rw [cond_false]; omega
    · rw [cond_true]; omega
  · unfold aBrk at h3 ⊢
    rw [aSit_n (by omega)]
    exact h3
theorem aSf_ck {P : Nat → Nat} {L : Nat} (inj : ∀ i j, i < j → j < L → P i < P j) : ∀ (n k : Nat) {T : zS}, k + n = L → wA T → (∀ j, k ≤ j → j < L → P j < (T 2).toNat ∧ aSeat T (P j) < 0) → aCk T = true → aSf P n k T = none
  | 0, _, T, _, _, _, h => by
    show (bif aCk T then none else some []) = none
    rw [h]; rfl
  | n + 1, k, T, hk, w, hl, h => by
    have h1 := hl k (by omega) (by omega)
    have b0 := w.1.1
    refine aSx_n _ _ fun b _ hb => ?_
    refine aSf_ck inj n (k + 1) (by omega) (aSit_w w h1.1 (by omega)) (fun j q1 q2 => ?_) (aCk_up w h1.1 h1.2 (by omega) h)
    have h2 := hl j (by omega) q2
    have := inj k j (by omega) q2
    rw [aSit_n (by omega), aSit_o (by omega)]
    exact h2
abbrev WSm (q : Nat) : Nat → Nat → Nat → Prop := fun g k i => g = 0 ∧ (k = 61 ∨ k = 66 ∨ (k = 70 ∧ q ≤ i))
theorem zm206 {P : Nat → Nat} {L : Nat} (hL : L ≤ 4) {S2 : Int} (hP : ∀ j, j < L → P j < S2.toNat) : ∀ (n k d : Nat) (T : zS) (σ : zM), k + n = L → wA T → T 2 = S2 → mS 61 T σ → mR 65 T (aHold T) σ → σ.1 0 60 11 = iI L → (∀ i, i < L → σ.1 0 68 i = iI (P i)) → ∃ τ T', zev (d + n + 9) 206 [.inr (.inr (0, 60)), .inl (iI k)] σ = some (zB (aSf P n k T).isSome, 0, τ) ∧ zFr (WSm k) σ τ ∧ mS 61 T' τ ∧ wA T' ∧ aGr P n k T T' ∧ ∀ l, aSf P n k T = some l → ∀ i, i < n → τ.1 0 70 (k + i) = iI (l.getD i 0 : Nat)
  | 0, k, d, T, σ, hk, w, h2, hS, hh, h11, h68 => by
    obtain ⟨τ, g1, g2⟩ := zm171 (d := d) hS w hh
    rw [ez_206, h11]
    simp only [iI_eq (show zrn (k : Int) by omega) (show zrn (L : Int) by omega)]
    rw [if_pos (by omega), g1]
    refine ⟨τ, T, ?_, zFr_i g2 fun _ _ _ q => by omega, mS_f hS (zFr_f g2 (fun i => by omega)), w, fun i _ => rfl, fun l _ i hi => by omega⟩
    simp only [zbs]
    unfold aSf
    cases aCk T
    · exact zgd_t rfl
    · exact zgd_t rfl
  | n + 1, k, d, T, σ, hk, w, h2, hS, hh, h11, h68 => by
    have b0 := w.1.1
    have b1 := w.1.2.1
    have p1 := w.2.2.1.2.1
    have hPk := hP k (by omega)
    rw [← h2] at hPk
    have hg4 : ∀ {y : zR}, zgd (zin (iI (k : Int)) 8) y = y := fun {y} => zgd_t (iI_ink (z := k) (k := k) rfl (by omega) (by decide))
    have hN : Int32.toNatClampNeg (iI (k : Int)) = k := iI_Nn (by omega)
    have key : ∀ (m b : Nat) (U : zS) (σ : zM), b + m = (T 0).toNat → wA U → aGr P (n + 1) k T U → mS 61 U σ → mR 65 T (aHold T) σ → σ.1 0 60 11 = iI L → (∀ i, i < L → σ.1 0 68 i = iI (P i)) → ∃ τ T', zrun (zev (d + n + 9)) zT_206 15 [some (.inr (.inr (0, 60))), some (.inl (iI k)), some (.inl (iI b))] [] σ = some (zB (aSx (fun b => aSf P n (k + 1) (aSit T (P k) b)) (aBrk T) m b).isSome, 0, τ) ∧ zFr (WSm k) σ τ ∧ mS 61 T' τ ∧ wA T' ∧ aGr P (n + 1) k T T' ∧ ∀ l, aSx (fun b => aSf P n (k + 1) (aSit T (P k) b)) (aBrk T) m b = some l → ∀ i, i < n + 1 → τ.1 0 70 (k + i) = iI (l.getD i 0 : Nat) := by
      intro m
      induction m with
      | zero =>
        intro b U σ hb wU gU hS hh h11 h68
        have u0 : U 0 = T 0 := gU 0 (fun j _ _ => by omega)
        rw [ez_206_15, hS 0 (by decide), u0, if_neg (by rw [iI_lt (by omega) (by omega)]; omega), zgd_t (by decide)]
        exact ⟨σ, U, rfl, zFr_r σ, hS, wU, gU, fun l h => by cases h⟩
      | succ m ih =>
        intro b U σ hb wU gU hS hh h11 h68
        have u0 : U 0 = T 0 := gU 0 (fun j _ _ => by omega)
        have u2 : U 2 = T 2 := gU 2 (fun j _ _ => by omega)
        have hb9 : b < (T 0).toNat := by omega
        have ub : aBrk U b = aBrk T b := by
          unfold aBrk
          rw [gU (11 + 5 * b) (fun j _ _ => by omega)]
        have wb := wU.1.2.2 b (by rw [u0]; exact hb9)
        have e57 : zev (d + n + 9) 157 [.inr (.inr (0, 60)), .inl (iI b)] σ = some (zB (aBrk T b), 0, σ) := by
          rw [← ub]; exact zm157 (d := d + n + 6) hS (by omega) (by omega)
        have eg : aSx (fun b => aSf P n (k + 1) (aSit T (P k) b)) (aBrk T) (m + 1) b = bif aBrk T b then aSx (fun b => aSf P n (k + 1) (aSit T (P k) b)) (aBrk T) m (b + 1) else match aSf P n (k + 1) (aSit T (P k) b) with
          | some l => some (b :: l)
          | none => aSx (fun b => aSf P n (k + 1) (aSit T (P k) b)) (aBrk T) m (b + 1) := rfl
        rw [eg, ez_206_15, hS 0 (by decide), u0, if_pos (by rw [iI_lt (by omega) (by omega)]; omega)]
        simp only [e57, zbs, zBi, hki1]
        cases q : aBrk T b
        case true =>
          rw [cond_true, cond_true]
          exact ih (b + 1) U σ (by omega) wU gU hS hh h11 h68
        case false =>
          rw [cond_false, cond_false]
          have e180 : zev (d + n + 9) 180 [.inr (.inr (0, 60)), .inl (iI (P k)), .inl (iI b)] σ = some (0, 0, zwI σ 0 61 (54 + 3 * P k) (iI ((b : Int) + 1))) := zm180 (d := d + n + 7) (by omega)
          have wV : wA (aSit U (P k) b) := aSit_w wU (by rw [u2]; exact hPk) (by omega)
          have hS1 : mS 61 (aSit U (P k) b) (zwI (zwI σ 0 61 (54 + 3 * P k) (iI ((b : Int) + 1))) 0 70 k (iI b)) := mS_f (mS_up hS) (zfn (by omega))
          have hV : ∀ u, u < 9 → aHold (aSit U (P k) b) u = aHold T u := fun u hu => by
            rw [aSit_hold (by omega) hu]
            exact aHold_c hu fun i hi => gU i (fun j h1 h2 => by
              have := hP j (by omega)
              have : dH i := hi
              omega)
          have hh1 : mR 65 (aSit U (P k) b) (aHold (aSit U (P k) b)) (zwI (zwI σ 0 61 (54 + 3 * P k) (iI ((b : Int) + 1))) 0 70 k (iI b)) := fun u hu => by
            rw [aSit_n (by omega), u0] at hu
            rw [zfe (by omega), zfe (by omega), hV u (by omega)]; exact hh u hu
          obtain ⟨τ, V, g1, g2, g3, g4, g5, g6⟩ := zm206 hL hP n (k + 1) d (aSit U (P k) b) (zwI (zwI σ 0 61 (54 + 3 * P k) (iI ((b : Int) + 1))) 0 70 k (iI b)) (by omega) wV (by rw [aSit_n (by omega), u2]; exact h2) hS1 hh1 (by rw [zfe (by omega), zfe (by omega)]; exact h11) (fun i hi => by rw [zfe (by omega), zfe (by omega)]; exact h68 i hi)
          have ef : aSf P n (k + 1) (aSit U (P k) b) = aSf P n (k + 1) (aSit T (P k) b) := aSf_c n (k + 1) (by rw [aSit_n (by omega)]; exact b1) (aGr_sit gU b)
          rw [ef] at g1 g6
          have fr : zFr (WSm k) σ τ := zFr_tt (zFr_tt (zFr_w (by omega)) (zFr_w (by omega))) (zFr_i g2 fun _ _ _ q => by omega)
          have gV : aGr P (n + 1) k T V := aGr_up gU g5
          simp only [hg4, hN, h68 k (by omega), e180, zbs, g1, zBi]
          cases q2 : aSf P n (k + 1) (aSit T (P k) b) with
          | none =>
            show ∃ τ_1 T', (bif false then _ else _) = _ ∧ _
            rw [cond_false]
            obtain ⟨υ, V2, y1, y2, y3, y4, y5, y6⟩ := ih (b + 1) V τ (by omega) g4 gV g3 (mR_f hh (zFr_f fr (fun i => by omega))) ((fr.1 _ _ _ (by omega)).trans h11) (fun i hi => (fr.1 _ _ _ (by omega)).trans (h68 i hi))
            exact ⟨υ, V2, y1, zFr_tt fr y2, y3, y4, y5, y6⟩
          | some l =>
            show ∃ τ_1 T', (bif true then _ else _) = _ ∧ _
            rw [cond_true, zgd_t (by decide)]
            refine ⟨τ, V, rfl, fr, g3, g4, gV, fun l' h => ?_⟩
            have h : some (b :: l) = some l' := h
            cases h
            intro i hi
            cases i with
            | zero =>
              rw [g2.1 _ _ _ (by omega), Nat.add_zero, zfs]; rfl
            | succ i =>
              have := g6 l q2 i (by omega)
              rw [show k + 1 + i = k + (i + 1) by omega] at this
              exact this
    have hk1 : ¬ ((k : Int) = (L : Int)) := by omega
    rw [show d + (n + 1) + 9 = d + n + 9 + 1 by omega, ez_206, h11]
    simp only [iI_eq (show zrn (k : Int) by omega) (show zrn (L : Int) by omega)]
    rw [if_neg hk1]
    exact key ((T 0).toNat) 0 T σ (by omega) w (fun _ _ => rfl) hS hh h11 h68
