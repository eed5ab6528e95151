theorem iI_a1 (z : Int) : iI z + 1 = iI (z + 1) := iI_add z 1
theorem iI_s1 (z : Int) : iI z - 1 = iI (z - 1) := iI_sub z 1
theorem zlitm1 : (-1 : Int32) = iI (-1) := by decide
theorem iI_m1 (z : Int) : iI z + (-1) = iI (z - 1) := by rw [zlitm1, iI_add, Int.sub_eq_add_neg]
theorem iI_0 {z : Int} (hz : zrn z) : (iI z = 0) = (z = 0) := iI_eq (b := 0) hz (by decide)
theorem iI_lt0 {z : Int} (hz : zrn z) : (iI z < 0) = (z < 0) := iI_lt (b := 0) hz (by decide)
theorem iI_0lt {z : Int} (hz : zrn z) : (0 < iI z) = (0 < z) := iI_lt (a := 0) (by decide) hz
theorem iI_1lt {z : Int} (hz : zrn z) : (1 < iI z) = (1 < z) := iI_lt (a := 1) (by decide) hz
theorem iI_lt9 {z : Int} (hz : zrn z) : (iI z < 9) = (z < 9) := iI_lt (b := 9) hz (by decide)
theorem iI_lt16 {z : Int} (hz : zrn z) : (iI z < 16) = (z < 16) := iI_lt (b := 16) hz (by decide)
theorem iI_n9 {z : Int} (hz : zrn z) : (iI z = -9) = (z = -9) := by rw [show (-9 : Int32) = iI (-9) by decide]; exact iI_eq hz (by decide)
def zSt (g k : Nat) : List Int32 → zM → Prop
  | [], _ => True
  | x :: r, σ => σ.1 g k r.length = x ∧ zSt g k r σ
theorem zSt_w {g k : Nat} : ∀ {st : List Int32} {σ : zM} {i : Nat} {v : Int32}, st.length ≤ i → zSt g k st σ → zSt g k st (zwI σ g k i v)
  | [], _, _, _, _, _ => trivial
  | x :: r, σ, i, v, h, hs => by
    rw [List.length_cons] at h
    exact ⟨(zfe (fun z => by have := z.2.2; omega)).trans hs.1, zSt_w (by omega) hs.2⟩
theorem zc68 {d : Nat} {c x y : Int32} {σ : zM} : zev (d + 1) 68 [.inl c, .inl x, .inl y] σ = some (zB (zcH c x y), 0, σ) := by
  rw [ez_68]
  unfold zcH
  by_cases h1 : c = -10
  · simp only [if_pos h1, zg30, zg31]
    by_cases hx : x = 0 <;> by_cases hy : y = 0 <;> simp [hx, hy, zB]
  by_cases h2 : c = -9
  · simp only [if_neg h1, if_pos h2, zg30, zg31]
    by_cases hx : x = 0 <;> by_cases hy : y = 0 <;> simp [hx, hy, zB]
  by_cases h3 : c = -8
  · simp only [if_neg h1, if_neg h2, if_pos h3, zg30, zg31]
    by_cases hx : y < x <;> simp [hx, zB]
  by_cases h4 : c = -7
  · simp only [if_neg h1, if_neg h2, if_neg h3, if_pos h4, zg30, zg31]
    by_cases hx : x = y <;> simp [hx, zB]
  by_cases h5 : c = -6
  · simp only [if_neg h1, if_neg h2, if_neg h3, if_neg h4, if_pos h5, zg30, zg31]
    by_cases hx : x < y <;> simp [hx, zB]
  · simp only [if_neg h1, if_neg h2, if_neg h3, if_neg h4, if_neg h5, zg30, zg31]
    by_cases hx : x = 0 <;> by_cases hy : y = 0 <;> simp [hx, hy, zB]
theorem zm163 {d : Nat} {c x y : Int32} {σ : zM} : zev (d + 1) 163 [.inl c, .inl x, .inl y] σ = some (zB (zmH c x y), 0, σ) := by
  rw [ez_163]
  unfold zmH
  by_cases h1 : c = -21
  · simp only [if_pos h1, zg30, zg31]
    by_cases hx : x = 1 <;> by_cases hy : y = 1 <;> simp [hx, hy, zB]
  by_cases h2 : c = -13
  · simp only [if_neg h1, if_pos h2, zg30, zg31]
    by_cases hx : y < x <;> simp [hx, zB]
  by_cases h3 : c = -12
  · simp only [if_neg h1, if_neg h2, if_pos h3, zg30, zg31]
    by_cases hx : x = y <;> simp [hx, zB]
  by_cases h4 : c = -11
  · simp only [if_neg h1, if_neg h2, if_neg h3, if_pos h4, zg30, zg31]
    by_cases hx : x < y <;> simp [hx, zB]
  · simp only [if_neg h1, if_neg h2, if_neg h3, if_neg h4, zg30, zg31]
    by_cases hx : x = 1 <;> by_cases hy : y = 1 <;> simp [hx, hy, zB]
theorem zm162 {d : Nat} {S : zS} {σ : zM} {c : Int32} {b : Nat} (h : mS 61 S σ) (hb : b < 9) : zev (d + 3) 162 [.inr (.inr (0, 60)), .inl c, .inl (iI b)] σ = some (zmF (aFct S b) c (aFct S b 4), 0, σ) := by
  rw [ez_162]
  unfold zmF
  by_cases h1 : c = -5
  · simp only [if_pos h1]; rfl
  by_cases h2 : c = -4
  · simp only [if_neg h1, if_pos h2]
    have e := zm156 (d := d) (b := b) (w := 3) h (by omega)
    rw [show 7 + 5 * b + 3 = 10 + 5 * b by omega] at e
    show (Option.bind (zev (d + 2) 156 [.inr (.inr (0, 60)), .inl (iI b), .inl (iI (3 : Nat))] σ) _) = _
    rw [e]; rfl
  by_cases h3 : c = -3
  · simp only [if_neg h1, if_neg h2, if_pos h3]
    have e := zm156 (d := d) (b := b) (w := 2) h (by omega)
    rw [show 7 + 5 * b + 2 = 9 + 5 * b by omega] at e
    show (Option.bind (zev (d + 2) 156 [.inr (.inr (0, 60)), .inl (iI b), .inl (iI (2 : Nat))] σ) _) = _
    rw [e]; rfl
  by_cases h4 : c = -2
  · simp only [if_neg h1, if_neg h2, if_neg h3, if_pos h4, h 5 (by decide)]; rfl
  by_cases h5 : c = -1
  · simp only [if_neg h1, if_neg h2, if_neg h3, if_neg h4, if_pos h5, h 4 (by decide)]; rfl
  · simp only [if_neg h1, if_neg h2, if_neg h3, if_neg h4, if_neg h5]
abbrev Wk (g k : Nat) : Nat → Nat → Nat → Prop := fun g' k' _ => g' = g ∧ k' = k
theorem zc67_5 {d g to : Nat} (hto : to ≤ 200) : ∀ (n k : Nat) (st : List Int32) (σ : zM) (d1 d5 : Option zV), k + n = to → st.length ≤ 16 → zSt g 14 st σ → ∃ τ, zrun (zev (d + 1)) zT_67 5 [some (.inr (.inr (g, 7))), d1, some (.inl (iI to)), some (.inl (iI st.length)), some (.inl (iI k)), d5] [] σ = some (zB (zcE (zcR (σ.1 g 13) (σ.1 g 12) n k st)), 0, τ) ∧ zFr (Wk g 14) σ τ
  | 0, k, st, σ, d1, d5, hk, hl, hs => by
    rw [ez_67_5, if_neg (by rw [iI_lt (by omega) (by omega)]; omega)]
    cases st with
    | nil => exact ⟨σ, by show (if iI 0 = 0 then _ else _) = _; rw [if_pos (show iI 0 = 0 from rfl)]; exact zgd_t rfl, zFr_r σ⟩
    | cons x r =>
      rw [List.length_cons] at hl ⊢
      refine ⟨σ, ?_, zFr_r σ⟩
      rw [if_neg (by rw [iI_0 (by omega)]; omega), iI_s1, zgd_t (iI_ink (k := r.length) (by omega) (by omega) (by decide)), iI_Nk (n := r.length) (by omega) (by omega), hs.1, zB_n]
      rfl
  | n + 1, k, st, σ, d1, d5, hk, hl, hs => by
    have ih : ∀ (st' : List Int32) (τ0 : zM) (top ki : Int32) (e1 e5 : Option zV), st' = zcS (σ.1 g 13) (σ.1 g 12 k) st → st'.length ≤ 16 → zSt g 14 st' τ0 → zFr (Wk g 14) σ τ0 → top = iI st'.length → ki = iI ((k + 1 : Nat) : Int) → ∃ τ, zrun (zev (d + 1)) zT_67 5 [some (.inr (.inr (g, 7))), e1, some (.inl (iI to)), some (.inl top), some (.inl ki), e5] [] τ0 = some (zB (zcE (zcR (σ.1 g 13) (σ.1 g 12) (n + 1) k st)), 0, τ) ∧ zFr (Wk g 14) σ τ := by
      intro st' τ0 top ki e1 e5 a1 a2 a3 a4 a5 a6
      subst a5 a6
      obtain ⟨τ, b1, b2⟩ := zc67_5 (d := d) (g := g) hto n (k + 1) st' τ0 e1 e5 (by omega) a2 a3
      rw [zFr_f a4 (fun i => by omega), zFr_f a4 (fun i => by omega)] at b1
      refine ⟨τ, ?_, zFr_tt a4 b2⟩
      rw [b1]
      show _ = some (zB (zcE (zcR _ _ n (k + 1) (zcS _ _ st))), 0, τ)
      rw [← a1]
    have hki : iI (k : Int) + 1 = iI ((k + 1 : Nat) : Int) := by rw [iI_a1]; congr 1 <;> omega
    rw [ez_67_5, if_pos (by rw [iI_lt (by omega) (by omega)]; omega)]
    simp only [zgd_t (iI_ink (z := k) (k := k) rfl (show k < 200 by omega) (by decide)), iI_Nn (show k ≤ 2147483647 by omega)]
    by_cases c1 : σ.1 g 12 k < -5
    · rw [if_pos c1]
      by_cases c2 : σ.1 g 12 k = -9
      · rw [if_pos c2]
        cases st with
        | nil =>
          rw [if_neg (by decide)]
          exact ih [] σ _ _ _ _ (by unfold zcS; rw [if_pos c1, if_pos c2]) hl hs (zFr_r σ) rfl hki
        | cons x r =>
          rw [List.length_cons] at hl ⊢
          rw [if_pos (by rw [iI_0lt (by omega)]; omega), iI_s1, zgd_t (iI_ink (k := r.length) (by omega) (by omega) (by decide)), zgd_t (iI_ink (k := r.length) (by omega) (by omega) (by decide)), iI_Nk (n := r.length) (by omega) (by omega), hs.1]
          exact ih ((1 - x) :: r) _ _ _ _ _ (by unfold zcS; rw [if_pos c1, if_pos c2]) hl ⟨zfs, zSt_w (Nat.le_refl _) hs.2⟩ (zFr_w ⟨rfl, rfl⟩) rfl hki
      · rw [if_neg c2]
        rcases st with _ | ⟨y, _ | ⟨x, r⟩⟩
        · rw [if_neg (by decide)]
          exact ih [] σ _ _ _ _ (by unfold zcS; rw [if_pos c1, if_neg c2]) hl hs (zFr_r σ) rfl hki
        · rw [if_neg (show ¬ (1 : Int32) < iI (([y] : List Int32).length : Int) from show ¬ (1 : Int32) < iI 1 by decide)]
          exact ih [y] σ _ _ _ _ (by unfold zcS; rw [if_pos c1, if_neg c2]) hl hs (zFr_r σ) rfl hki
        · rw [List.length_cons, List.length_cons] at hl ⊢
          have hx : σ.1 g 14 r.length = x := hs.2.1
          have hy : σ.1 g 14 (r.length + 1) = y := hs.1
          rw [if_pos (by rw [iI_1lt (by omega)]; omega), iI_m1, iI_s1, zgd_t (iI_ink (k := r.length) (by omega) (by omega) (by decide)), zgd_t (iI_ink (k := r.length + 1) (by omega) (by omega) (by decide)), iI_Nk (n := r.length) (by omega) (by omega), iI_Nk (n := r.length + 1) (by omega) (by omega), hx, hy, zc68]
          have e := ih (zB (zcH (σ.1 g 12 k) x y) :: r) (zwI σ g 14 r.length (zB (zcH (σ.1 g 12 k) x y)))
          have e2 : zB (zcH (σ.1 g 12 k) x y) :: r = zcS (σ.1 g 13) (σ.1 g 12 k) (y :: x :: r) := by unfold zcS; rw [if_pos c1, if_neg c2]
          simp only [zbs, zBi]
          cases hH : zcH (σ.1 g 12 k) x y
          · rw [hH] at e e2
            rw [cond_false, zgd_t (iI_ink (k := r.length) (by omega) (by omega) (by decide))]
            exact e _ _ _ _ e2 (by rw [List.length_cons]; omega) ⟨zfs, zSt_w (Nat.le_refl _) hs.2.2⟩ (zFr_w ⟨rfl, rfl⟩) (by rw [List.length_cons]; congr 1 <;> omega) hki
          · rw [hH] at e e2
            rw [cond_true, zgd_t (iI_ink (k := r.length) (by omega) (by omega) (by decide))]
            exact e _ _ _ _ e2 (by rw [List.length_cons]; omega) ⟨zfs, zSt_w (Nat.le_refl _) hs.2.2⟩ (zFr_w ⟨rfl, rfl⟩) (by rw [List.length_cons]; congr 1 <;> omega) hki
    · rw [if_neg c1]
      by_cases c3 : st.length < 16
      · rw [if_pos (by rw [iI_lt16 (by omega)]; omega)]
        by_cases c4 : σ.1 g 12 k < 0
        · have hz : -5 ≤ (σ.1 g 12 k).toInt ∧ (σ.1 g 12 k).toInt < 0 := by
            rw [zlt32] at c1 c4
            have z5 : (-5 : Int32).toInt = -5 := by decide
            have z0 : (0 : Int32).toInt = 0 := by decide
            rw [z5] at c1
            rw [z0] at c4
            omega
          have ez : (-1 : Int32) - σ.1 g 12 k = iI (-1 - (σ.1 g 12 k).toInt) := by
            rw [← iI_sub, iI_t]; rfl
          have hi : zin ((-1 : Int32) - σ.1 g 12 k) 5 = true := by
            rw [ez]; exact iI_in (by omega) (by omega) (by decide)
          rw [if_pos c4, zgd_t hi, zgd_t (iI_ink (k := st.length) rfl c3 (by decide)), iI_Nn (n := st.length) (by omega)]
          exact ih (σ.1 g 13 ((-1) - σ.1 g 12 k).toNatClampNeg :: st) _ _ _ _ _ (by unfold zcS; rw [if_neg c1, if_pos c3, if_pos c4]) (by rw [List.length_cons]; omega) ⟨zfs, zSt_w (Nat.le_refl _) hs⟩ (zFr_w ⟨rfl, rfl⟩) (by rw [iI_a1, List.length_cons]; congr 1 <;> omega) hki
        · rw [if_neg c4, zgd_t (iI_ink (k := st.length) rfl c3 (by decide)), iI_Nn (n := st.length) (by omega)]
          exact ih (σ.1 g 12 k :: st) _ _ _ _ _ (by unfold zcS; rw [if_neg c1, if_pos c3, if_neg c4]) (by rw [List.length_cons]; omega) ⟨zfs, zSt_w (Nat.le_refl _) hs⟩ (zFr_w ⟨rfl, rfl⟩) (by rw [iI_a1, List.length_cons]; congr 1 <;> omega) hki
      · rw [if_neg (by rw [iI_lt16 (by omega)]; omega)]
        exact ih st σ _ _ _ _ (by unfold zcS; rw [if_neg c1, if_neg c3]) hl hs (zFr_r σ) rfl hki
theorem zc67 {d g k n : Nat} {σ : zM} (h : k + n ≤ 200) : ∃ τ, zev (d + 2) 67 [.inr (.inr (g, 7)), .inl (iI k), .inl (iI (k + n : Nat))] σ = some (zB (zcC (σ.1 g 13) (σ.1 g 12) k n), 0, τ) ∧ zFr (Wk g 14) σ τ := by
  rw [ez_67]
  exact zc67_5 (to := k + n) h n k [] σ _ _ rfl (by decide) trivial
theorem zm164_6 {d to b : Nat} {S : zS} (hto : to ≤ 200) (hb : b < 9) : ∀ (n k : Nat) (st st2 : List Int32) (σ : zM) (d1 d6 : Option zV), mS 61 S σ → k + n = to → st.length ≤ k → zSt 0 64 st σ → zmR (aFct S b) (aCod S) n k st = some st2 → ∃ τ, zrun (zev (d + 3)) zT_164 6 [some (.inr (.inr (0, 60))), d1, some (.inl (iI to)), some (.inl (iI b)), some (.inl (iI st.length)), some (.inl (iI k)), d6] [] σ = some (zB (zmE st2), 0, τ) ∧ zFr (Wk 0 64) σ τ
  | 0, k, st, st2, σ, d1, d6, hS, hk, hl, hs, hr => by
    cases hr
    rw [ez_164_6, if_neg (by rw [iI_lt (by omega) (by omega)]; omega)]
    cases st with
    | nil => exact ⟨σ, by show (if iI 0 = 0 then _ else _) = _; rw [if_pos (show iI 0 = 0 from rfl)]; exact zgd_t rfl, zFr_r σ⟩
    | cons x r =>
      refine ⟨σ, ?_, zFr_r σ⟩
      have e : ∀ (r : List Int32) (x : Int32), zSt 0 64 (x :: r) σ → (x :: r).getLast? = some (σ.1 0 64 0) := by
        intro r
        induction r with
        | nil => intro x q; exact congrArg some q.1.symm
        | cons y r ih => intro x q; rw [List.getLast?_cons_cons]; exact ih y q.2
      rw [List.length_cons] at hl ⊢
      rw [if_neg (by rw [iI_0 (by omega)]; omega), zB_d]
      unfold zmE
      rw [e r x hs]
      congr 3
      exact zdec ⟨fun q => by rw [q], fun q => Option.some.inj q⟩
  | n + 1, k, st, st2, σ, d1, d6, hS, hk, hl, hs, hr => by
    have hc : σ.1 0 61 (120 + k) = aCod S k := hS _ (by omega)
    have ih : ∀ (st' : List Int32) (τ0 : zM) (top ki : Int32) (e1 e6 : Option zV), zmS (aFct S b) (aCod S k) st = some st' → st'.length ≤ k + 1 → zSt 0 64 st' τ0 → zFr (Wk 0 64) σ τ0 → top = iI st'.length → ki = iI ((k + 1 : Nat) : Int) → ∃ τ, zrun (zev (d + 3)) zT_164 6 [some (.inr (.inr (0, 60))), e1, some (.inl (iI to)), some (.inl (iI b)), some (.inl top), some (.inl ki), e6] [] τ0 = some (zB (zmE st2), 0, τ) ∧ zFr (Wk 0 64) σ τ := by
      intro st' τ0 top ki e1 e6 a1 a2 a3 a4 a5 a6
      subst a5 a6
      have hr' : zmR (aFct S b) (aCod S) n (k + 1) st' = some st2 := by
        have hr2 : (zmS (aFct S b) (aCod S k) st).bind (zmR (aFct S b) (aCod S) n (k + 1)) = some st2 := hr
        rw [a1] at hr2
        exact hr2
      obtain ⟨τ, b1, b2⟩ := zm164_6 (d := d) hto hb n (k + 1) st' st2 τ0 e1 e6 (mS_f hS (zFr_f a4 (fun i => by omega))) (by omega) a2 a3 hr'
      exact ⟨τ, b1, zFr_tt a4 b2⟩
    have hki : iI (k : Int) + 1 = iI ((k + 1 : Nat) : Int) := by rw [iI_a1]; congr 1 <;> omega
    have hk0 : (120 : Int32) + iI k = iI ((120 + k : Nat) : Int) := by
      show iI 120 + iI k = _
      rw [iI_add]; congr 1 <;> omega
    have hne : zmS (aFct S b) (aCod S k) st ≠ none := by
      intro q
      have hr2 : (zmS (aFct S b) (aCod S k) st).bind (zmR (aFct S b) (aCod S) n (k + 1)) = some st2 := hr
      rw [q] at hr2
      cases hr2
    rw [ez_164_6, if_pos (by rw [iI_lt (by omega) (by omega)]; omega)]
    simp only [hk0, zgd_t (iI_ink (k := 120 + k) (z := ((120 + k : Nat) : Int)) rfl (show 120 + k < 320 by omega) (by decide)), iI_Nn (show 120 + k ≤ 2147483647 by omega), hc]
    by_cases c1 : -10 < aCod S k
    · rw [if_pos c1, zm162 hS hb]
      simp only [zbs, zgd_t (iI_ink (z := st.length) (k := st.length) rfl (show st.length < 200 by omega) (by decide)), iI_Nn (show st.length ≤ 2147483647 by omega)]
      exact ih (zmF (aFct S b) (aCod S k) (aFct S b 4) :: st) _ _ _ _ _ (by unfold zmS; rw [if_pos c1]) (by rw [List.length_cons]; omega) ⟨zfs, zSt_w (Nat.le_refl _) hs⟩ (zFr_w ⟨rfl, rfl⟩) (by rw [iI_a1, List.length_cons]; congr 1 <;> omega) hki
    · rw [if_neg c1]
      by_cases c2 : aCod S k = -20
      · rw [if_pos c2]
        cases st with
        | nil => exact absurd (by unfold zmS; rw [if_neg c1, if_pos c2]) hne
        | cons x r =>
          rw [List.length_cons] at hl ⊢
          rw [iI_s1, zgd_t (iI_ink (k := r.length) (by omega) (by omega) (by decide)), zgd_t (iI_ink (k := r.length) (by omega) (by omega) (by decide)), iI_Nk (n := r.length) (by omega) (by omega), hs.1]
          exact ih ((1 - x) :: r) _ _ _ _ _ (by unfold zmS; rw [if_neg c1, if_pos c2]) (by rw [List.length_cons]; omega) ⟨zfs, zSt_w (Nat.le_refl _) hs.2⟩ (zFr_w ⟨rfl, rfl⟩) rfl hki
      · rw [if_neg c2]
        rcases st with _ | ⟨y, _ | ⟨x, r⟩⟩
        · exact absurd (by unfold zmS; rw [if_neg c1, if_neg c2]) hne
        · exact absurd (by unfold zmS; rw [if_neg c1, if_neg c2]) hne
        · rw [List.length_cons, List.length_cons] at hl ⊢
          have hx : σ.1 0 64 r.length = x := hs.2.1
          have hy : σ.1 0 64 (r.length + 1) = y := hs.1
          rw [iI_m1, iI_s1, zgd_t (iI_ink (k := r.length) (by omega) (by omega) (by decide)), zgd_t (iI_ink (k := r.length + 1) (by omega) (by omega) (by decide)), iI_Nk (n := r.length) (by omega) (by omega), iI_Nk (n := r.length + 1) (by omega) (by omega), hx, hy, zm163]
          have e := ih (zB (zmH (aCod S k) x y) :: r) (zwI σ 0 64 r.length (zB (zmH (aCod S k) x y)))
          have e2 : zmS (aFct S b) (aCod S k) (y :: x :: r) = some (zB (zmH (aCod S k) x y) :: r) := by unfold zmS; rw [if_neg c1, if_neg c2]
          simp only [zbs, zBi]
          cases hH : zmH (aCod S k) x y
          · rw [hH] at e e2
            rw [cond_false, zgd_t (iI_ink (k := r.length) (by omega) (by omega) (by decide))]
            exact e _ _ _ _ e2 (by rw [List.length_cons]; omega) ⟨zfs, zSt_w (Nat.le_refl _) hs.2.2⟩ (zFr_w ⟨rfl, rfl⟩) (by rw [List.length_cons]; congr 1 <;> omega) hki
          · rw [hH] at e e2
            rw [cond_true, zgd_t (iI_ink (k := r.length) (by omega) (by omega) (by decide))]
            exact e _ _ _ _ e2 (by rw [List.length_cons]; omega) ⟨zfs, zSt_w (Nat.le_refl _) hs.2.2⟩ (zFr_w ⟨rfl, rfl⟩) (by rw [List.length_cons]; congr 1 <;> omega) hki
theorem zm164 {d b k n : Nat} {S : zS} {σ : zM} {v : Bool} (h : k + n ≤ 200) (hb : b < 9) (hS : mS 61 S σ) (hv : zmC (aFct S b) (aCod S) k n = some v) : ∃ τ, zev (d + 4) 164 [.inr (.inr (0, 60)), .inl (iI k), .inl (iI (k + n : Nat)), .inl (iI b)] σ = some (zB v, 0, τ) ∧ zFr (Wk 0 64) σ τ := by
  rw [ez_164]
  unfold zmC at hv
  cases hr : zmR (aFct S b) (aCod S) n k [] with
  | none => rw [hr] at hv; cases hv
  | some st2 =>
    rw [hr] at hv
    cases hv
    exact zm164_6 (to := k + n) h hb n k [] st2 σ _ _ hS rfl (Nat.zero_le _) trivial hr
