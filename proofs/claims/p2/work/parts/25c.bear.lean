theorem mS_g {S : zS} {σ τ : zM} {W : Nat → Nat → Nat → Prop} (h : mS 61 S σ) (f : zFr W σ τ) (q : ∀ i, ¬ W 0 61 i) : mS 61 S τ := mS_f h (zFr_f f q)
theorem zm166 {d : Nat} {S : zS} {σ : zM} (hS : mS 61 S σ) (w : wB S) (v : wW S) (u : wU S) : ∃ τ, zev (d + 6) 166 [.inr (.inr (0, 60))] σ = some (0, 0, τ) ∧ zFr (fun g k _ => g = 0 ∧ (k = 64 ∨ k = 65)) σ τ ∧ ∀ b, b < (S 0).toNat → τ.1 0 65 b = iI (aHold S b) := by
  have w0 := w.1
  have w1 := w.2.1
  have key : ∀ n k (τ0 : zM), k + n = (S 0).toNat → zFr (fun g k _ => g = 0 ∧ (k = 64 ∨ k = 65)) σ τ0 → (∀ b, b < k → τ0.1 0 65 b = iI (aHold S b)) → ∃ τ, zrun (zev (d + 5)) zT_166 2 [some (.inr (.inr (0, 60))), some (.inl (iI k))] [] τ0 = some (0, 0, τ) ∧ zFr (fun g k _ => g = 0 ∧ (k = 64 ∨ k = 65)) σ τ ∧ ∀ b, b < (S 0).toNat → τ.1 0 65 b = iI (aHold S b) := by
    intro n
    induction n with
    | zero =>
      intro k τ0 hk f hs
      have hS0 := mS_g hS f (fun i => by omega)
      rw [ez_166_2, hS0 0 (by decide), if_neg (by rw [iI_lt (by omega) (by omega)]; omega)]
      exact ⟨τ0, rfl, f, fun b hb => hs b (by omega)⟩
    | succ n ih =>
      intro k τ0 hk f hs
      have hS0 := mS_g hS f (fun i => by omega)
      obtain ⟨τ1, c1, c2⟩ := zm165 (d := d) (b := k) hS0 w v u (by omega)
      have f1 : zFr (fun g k _ => g = 0 ∧ (k = 64 ∨ k = 65)) σ τ1 := zFr_tt f (zFr_i c2 (fun _ _ _ q => ⟨q.1, Or.inl q.2⟩))
      rw [ez_166_2, hS0 0 (by decide), if_pos (by rw [iI_lt (by omega) (by omega)]; omega), c1]
      simp only [zbs, zgd_t (iI_ink (z := k) (k := k) rfl (show k < 9 by omega) (by decide)), iI_Nn (show k ≤ 2147483647 by omega), hki1]
      refine ih (k + 1) _ (by omega) (zFr_tt f1 (zFr_w ⟨rfl, Or.inr rfl⟩)) (fun b hb => ?_)
      by_cases e : b = k
      · subst e; exact zfs
      · rw [zfe (fun z => e z.2.2), c2.1 _ _ _ (by omega)]
        exact hs b (by omega)
  rw [ez_166]
  exact key ((S 0).toNat) 0 σ (by omega) (zFr_r σ) (fun b hb => absurd hb (Nat.not_lt_zero _))
def mR (k : Nat) (S : zS) (f : Nat → Int) (σ : zM) : Prop := ∀ b, b < (S 0).toNat → σ.1 0 k b = iI (f b)
theorem mR_f {k : Nat} {S : zS} {f : Nat → Int} {σ τ : zM} (h : mR k S f σ) (e : τ.1 0 k = σ.1 0 k) : mR k S f τ := fun b hb => by rw [e]; exact h b hb
theorem zm167 {d : Nat} {S : zS} {x : Int} (w : wB S) : ∀ (n : Nat) (z : Int) (f : Nat → Int) (σ : zM) (d1 : Option zV), z < n → z < S 0 → -1 ≤ z → mS 61 S σ → mR 66 S f σ → ∃ τ, zrun (zev (d + 3)) zT_167 2 [some (.inr (.inr (0, 60))), d1, some (.inl (iI x)), some (.inl (iI z))] [] σ = some (0, 0, τ) ∧ zFr (Wk 0 66) σ τ ∧ mR 66 S (fun u => f u + (bif aAbI S z u then x else 0)) τ
  | 0, z, f, σ, d1, hz, hz0, hz1, hS, hf => by
    rw [ez_167_2, if_pos (by rw [iI_lt0 (by omega)]; omega)]
    exact ⟨σ, rfl, zFr_r σ, fun b hb => by dsimp only; rw [aAbI_n (by omega), cond_false, Int.add_zero]; exact hf b hb⟩
  | n + 1, z, f, σ, d1, hz, hz0, hz1, hS, hf => by
    have w0 := w.1
    have w1 := w.2.1
    rw [ez_167_2]
    by_cases q : z < 0
    · rw [if_pos (by rw [iI_lt0 (by omega)]; omega)]
      exact ⟨σ, rfl, zFr_r σ, fun b hb => by dsimp only; rw [aAbI_n q, cond_false, Int.add_zero]; exact hf b hb⟩
    · obtain ⟨c, rfl⟩ := zint (show 0 ≤ z by omega)
      have w2 := w.2.2 c (by omega)
      have hp : aPar S c < c ∧ -1 ≤ aPar S c := by unfold aPar; omega
      rw [if_neg (by rw [iI_lt0 (by omega)]; omega)]
      simp only [zgd_t (iI_ink (z := c) (k := c) rfl (show c < 9 by omega) (by decide)), iI_Nn (show c ≤ 2147483647 by omega), hf c (by omega), iI_add]
      have hS1 : mS 61 S (zwI σ 0 66 c (iI (f c + x))) := mS_f hS (zfn (by decide))
      rw [zm158 (d := d) hS1 (show c < 9 by omega)]
      simp only [zbs]
      obtain ⟨τ, b1, b2, b3⟩ := zm167 (d := d) w n (aPar S c) (fun u => if u = c then f c + x else f u) (zwI σ 0 66 c (iI (f c + x))) none (by omega) (by omega) (by omega) hS1 (fun b hb => by
        try dsimp only
        by_cases e : b = c
        · subst e; rw [if_pos rfl]; exact zfs
        · rw [if_neg e, zfe (fun q => e q.2.2)]; exact hf b hb)
      refine ⟨τ, b1, zFr_tt (zFr_w ⟨rfl, rfl⟩) b2, fun b hb => ?_⟩
      rw [b3 b hb]
      congr 1
      try dsimp only
      rw [aAbI_p, aAb_u w (show c < (S 0).toNat by omega)]
      by_cases e : b = c
      · subst e
        have hn : aAbI S (aPar S b) b = false := by
          by_cases q2 : aPar S b < 0
          · exact aAbI_n q2
          · obtain ⟨m, hm⟩ := zint (show 0 ≤ aPar S b by omega)
            rw [hm, aAbI_p]
            cases hx : aAb S m b
            · rfl
            · have := aAb_le w (m + 1) m (by omega) (by omega) hx
              omega
        rw [if_pos rfl, hn, Nat.beq_refl, cond_false, Bool.true_or, cond_true, Int.add_zero]
      · have hb' : Nat.beq c b = false := by
          cases hx : Nat.beq c b
          · rfl
          · exact absurd (Nat.eq_of_beq_eq_true hx).symm e
        rw [if_neg e, hb', Bool.false_or]
theorem zm167e {d : Nat} {S : zS} {x z : Int} {f : Nat → Int} {σ : zM} (w : wB S) (hz0 : z < S 0) (hz1 : -1 ≤ z) (hS : mS 61 S σ) (hf : mR 66 S f σ) : ∃ τ, zev (d + 4) 167 [.inr (.inr (0, 60)), .inl (iI z), .inl (iI x)] σ = some (0, 0, τ) ∧ zFr (Wk 0 66) σ τ ∧ mR 66 S (fun u => f u + (bif aAbI S z u then x else 0)) τ := by
  have w1 := w.2.1
  rw [ez_167]
  exact zm167 w 9 z f σ _ (by omega) hz0 hz1 hS hf
theorem zm168 {d : Nat} {S : zS} {σ : zM} (hS : mS 61 S σ) (w : wB S) (v : wW S) (q : wP S) : ∃ τ, zev (d + 6) 168 [.inr (.inr (0, 60))] σ = some (0, 0, τ) ∧ zFr (Wk 0 66) σ τ ∧ mR 66 S (aBear S) τ := by
  have w0 := w.1
  have w1 := w.2.1
  have q0 := q.1
  have q1 := q.2.1
  have key2 : ∀ n k (τ0 : zM), k + n = (S 2).toNat → zFr (Wk 0 66) σ τ0 → mR 66 S (fun b => aBw S b k) τ0 → ∃ τ, zrun (zev (d + 5)) zT_168 39 [some (.inr (.inr (0, 60))), some (.inl (iI k))] [] τ0 = some (0, 0, τ) ∧ zFr (Wk 0 66) σ τ ∧ mR 66 S (aBear S) τ := by
    intro n
    induction n with
    | zero =>
      intro k τ0 hk f hs
      have hS0 := mS_g hS f (fun i => by omega)
      rw [ez_168_39, hS0 2 (by decide), if_neg (by rw [iI_lt (by omega) (by omega)]; omega)]
      exact ⟨τ0, rfl, f, fun b hb => by rw [hs b hb, show k = (S 2).toNat by omega]; rfl⟩
    | succ n ih =>
      intro k τ0 hk f hs
      have hS0 := mS_g hS f (fun i => by omega)
      have hr := aSeat_r q (show k < (S 2).toNat by omega)
      have e8 := zm178 (d := d + 3) (p := k) (w := 0) hS0 (by omega)
      have e8 : zev (d + 5) 178 [.inr (.inr (0, 60)), .inl (iI k), .inl 0] τ0 = some (iI (S (52 + 3 * k)), 0, τ0) := e8
      obtain ⟨τ1, c1, c2, c3⟩ := zm167e (d := d + 1) (x := S (52 + 3 * k)) w hr.2 hr.1 hS0 hs
      rw [ez_168_39, hS0 2 (by decide), if_pos (by rw [iI_lt (by omega) (by omega)]; omega)]
      simp only [zm179 (d := d + 2) hS0 (show k < 8 by omega), zbs, e8, c1, hki1]
      exact ih (k + 1) τ1 (by omega) (zFr_tt f c2) (fun b hb => by rw [c3 b hb]; dsimp only; rw [aBw_s])
  have key : ∀ n k (τ0 : zM), k + n = (S 0).toNat → zFr (Wk 0 66) σ τ0 → (∀ b, b < k → τ0.1 0 66 b = iI (S 5 * S (9 + 5 * b))) → ∃ τ, zrun (zev (d + 5)) zT_168 2 [some (.inr (.inr (0, 60))), some (.inl (iI k))] [] τ0 = some (0, 0, τ) ∧ zFr (Wk 0 66) σ τ ∧ mR 66 S (aBear S) τ := by
    intro n
    induction n with
    | zero =>
      intro k τ0 hk f hs
      have hS0 := mS_g hS f (fun i => by omega)
      rw [ez_168_2, hS0 0 (by decide), if_neg (by rw [iI_lt (by omega) (by omega)]; omega)]
      exact key2 ((S 2).toNat) 0 τ0 (by omega) f (fun b hb => by
        rw [hs b (by omega)]
        congr 1
        show _ = _ + zsum _ 0
        rw [show zsum _ 0 = 0 from rfl, Int.add_zero])
    | succ n ih =>
      intro k τ0 hk f hs
      have hS0 := mS_g hS f (fun i => by omega)
      have e2 := zm156 (d := d + 3) (b := k) (w := 2) hS0 (by omega)
      rw [show 7 + 5 * k + 2 = 9 + 5 * k by omega] at e2
      have e2 : zev (d + 5) 156 [.inr (.inr (0, 60)), .inl (iI k), .inl 2] τ0 = _ := e2
      rw [ez_168_2, hS0 0 (by decide), if_pos (by rw [iI_lt (by omega) (by omega)]; omega)]
      simp only [e2, zbs, zgd_t (iI_ink (z := k) (k := k) rfl (show k < 9 by omega) (by decide)), iI_Nn (show k ≤ 2147483647 by omega), hki1, hS0 5 (by decide), iI_mul]
      refine ih (k + 1) _ (by omega) (zFr_tt f (zFr_w ⟨rfl, rfl⟩)) (fun b hb => ?_)
      by_cases e : b = k
      · subst e; exact zfs
      · rw [zfe (fun z => e z.2.2)]
        exact hs b (by omega)
  rw [ez_168]
  exact key ((S 0).toNat) 0 σ (by omega) (zFr_r σ) (fun b hb => absurd hb (Nat.not_lt_zero _))
def mF (S : zS) (f : Nat → Int) (σ : zM) : Prop := ∃ h e : Nat → Int, mR 65 S h σ ∧ mR 66 S e σ ∧ ∀ b, b < (S 0).toNat → f b = h b - e b ∧ zrn (h b) ∧ zrn (e b)
theorem zm169 {d b : Nat} {S : zS} {σ : zM} {f : Nat → Int} (hS : mS 61 S σ) (w : wB S) (hf : mF S f σ) (hb : b < (S 0).toNat) : zev (d + 4) 169 [.inr (.inr (0, 60)), .inl (iI b)] σ = some (zB (aCr S f b), 0, σ) := by
  have w1 := w.2.1
  have w2 := w.2.2 b hb
  obtain ⟨h, e, h1, h2, h3⟩ := hf
  obtain ⟨h4, h5, h6⟩ := h3 b hb
  rw [ez_169]
  simp only [zm157 (d := d) hS (show b < 9 by omega) (by omega), zbs, zBi]
  unfold aCr
  cases aBrk S b
  · rw [cond_false]
    simp only [zgd_t (iI_ink (z := b) (k := b) rfl (show b < 9 by omega) (by decide)), iI_Nn (show b ≤ 2147483647 by omega), h1 b hb, h2 b hb, iI_lt h5 h6]
    rw [zB_d, Bool.not_false, Bool.and_true]
    congr 2
    congr 1
    exact zdec (by omega)
  · rw [cond_true, Bool.not_true, Bool.and_false]
    exact zgd_t rfl
theorem zm170_8 {d : Nat} {S : zS} {σ : zM} {f : Nat → Int} (hS : mS 61 S σ) (w : wB S) (hf : mF S f σ) : zrun (zev (d + 4)) zT_170 8 [some (.inr (.inr (0, 60))), some (.inl 0), some (.inl 0)] [] σ = some (zcr (aCr S f) ((S 0).toNat), 0, σ) := by
  have w0 := w.1
  have w1 := w.2.1
  have key : ∀ i, i ≤ (S 0).toNat → zrun (zev (d + 4)) zT_170 8 [some (.inr (.inr (0, 60))), some (.inl (zcr (aCr S f) i)), some (.inl (iI i))] [] σ = some (zcr (aCr S f) ((S 0).toNat), 0, σ) := by
    intro i hi
    refine zloop (n := (S 0).toNat) (P := fun i => zrun (zev (d + 4)) zT_170 8 [some (.inr (.inr (0, 60))), some (.inl (zcr (aCr S f) i)), some (.inl (iI i))] [] σ = some (zcr (aCr S f) ((S 0).toNat), 0, σ)) ?_ ?_ hi
    · rw [ez_170_8, hS 0 (by decide), if_neg (by rw [iI_lt (by omega) (by omega)]; omega)]
    · intro i hi ih
      have e : zcr (aCr S f) (i + 1) = bif aCr S f i then zcr (aCr S f) i ||| (1 <<< (iI i &&& 31)) else zcr (aCr S f) i := rfl
      rw [ez_170_8, hS 0 (by decide), if_pos (by rw [iI_lt (by omega) (by omega)]; omega)]
      simp only [zm169 (d := d) hS w hf hi, zbs, zBi, hki1, Int32.or_zero]
      cases hh : aCr S f i
      · rw [hh, cond_false] at e
        rw [cond_false, ← e]; exact ih
      · rw [hh, cond_true] at e
        rw [cond_true, ← e]; exact ih
  exact key 0 (by omega)
