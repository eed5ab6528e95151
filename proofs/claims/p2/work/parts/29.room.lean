def aRm (S : zS) (f : Nat → Int) (b : Nat) : Nat → Int
  | 0 => f b
  | n + 1 => bif aAb S b n then (if f n < aRm S f b n then f n else aRm S f b n) else aRm S f b n
def aRoom (S : zS) (f : Nat → Int) (b : Nat) : Int := if 0 < aRm S f b ((S 0).toNat) then aRm S f b ((S 0).toNat) else 0
theorem aRm_le {S : zS} {f : Nat → Int} {b : Nat} : ∀ {n u : Nat}, u < n → aAb S b u = true → aRm S f b n ≤ f u
  | 0, _, h, _ => absurd h (Nat.not_lt_zero _)
  | n + 1, u, h, hu => by
    show (bif aAb S b n then (if f n < aRm S f b n then f n else aRm S f b n) else aRm S f b n) ≤ f u
    by_cases e : u = n
    · subst e
      rw [hu, cond_true]
      split <;> omega
    · have := aRm_le (f := f) (n := n) (u := u) (by omega) hu
      cases aAb S b n
      · exact this
      · rw [cond_true]; split <;> omega
theorem aRm_at {S : zS} {f : Nat → Int} {b : Nat} : ∀ (n : Nat), n ≤ (S 0).toNat → ∃ u, (u = b ∨ u < (S 0).toNat) ∧ aAb S b u = true ∧ aRm S f b n = f u
  | 0, _ => ⟨b, Or.inl rfl, aAb_s, rfl⟩
  | n + 1, hn => by
    obtain ⟨u, h1, h2, h3⟩ := aRm_at (S := S) (f := f) (b := b) n (by omega)
    have e : aRm S f b (n + 1) = bif aAb S b n then (if f n < aRm S f b n then f n else aRm S f b n) else aRm S f b n := rfl
    cases q : aAb S b n
    · rw [q, cond_false] at e
      exact ⟨u, h1, h2, e.trans h3⟩
    · rw [q, cond_true] at e
      by_cases q2 : f n < aRm S f b n
      · rw [if_pos q2] at e
        exact ⟨n, Or.inr (by omega), q, e⟩
      · rw [if_neg q2] at e
        exact ⟨u, h1, h2, e.trans h3⟩
theorem zc32 {d g b : Nat} {S : zS} {σ : zM} {f : Nat → Int} (hB : cB g S σ) (w : wB S) (hs : cS g S f σ) (hf : fR S f) (hb : b < (S 0).toNat) : zev (d + 3) 32 [.inr (.inr (g, 0)), .inl (iI b)] σ = some (iI (aRoom S f b), 0, σ) := by
  have w0 := w.1
  have w1 := w.2.1
  have hr : ∀ i, i ≤ (S 0).toNat → -100000 ≤ aRm S f b i ∧ aRm S f b i ≤ 100000 := by
    intro i hi
    obtain ⟨u, h1, h2, h3⟩ := aRm_at (S := S) (f := f) (b := b) i hi
    rw [h3]
    rcases h1 with rfl | h1
    · exact hf _ hb
    · exact hf u h1
  have key : ∀ i, i ≤ (S 0).toNat → zrun (zev (d + 2)) zT_32 9 [some (.inr (.inr (g, 0))), some (.inl (iI b)), some (.inl (iI (aRm S f b i))), some (.inl (iI i))] [] σ = some (iI (aRoom S f b), 0, σ) := by
    intro i hi
    refine zloop (n := (S 0).toNat) (P := fun i => zrun (zev (d + 2)) zT_32 9 [some (.inr (.inr (g, 0))), some (.inl (iI b)), some (.inl (iI (aRm S f b i))), some (.inl (iI i))] [] σ = some (iI (aRoom S f b), 0, σ)) ?_ ?_ hi
    · have h := hr ((S 0).toNat) (Nat.le_refl _)
      rw [ez_32_9, hB.1, if_neg (by rw [iI_lt (by omega) (by omega)]; omega)]
      show (Option.bind (zev (d + 2) 272 [.inl (iI 0), _] σ) _) = _
      rw [zc272 (by omega) (by omega)]
      rfl
    · intro i hi ih
      have h := hr i (by omega)
      have h2 := hf i hi
      have e : aRm S f b (i + 1) = bif aAb S b i then (if f i < aRm S f b i then f i else aRm S f b i) else aRm S f b i := rfl
      rw [ez_32_9, hB.1, if_pos (by rw [iI_lt (by omega) (by omega)]; omega), zc15n hB ⟨w0, w1⟩ hb (show i < 9 by omega)]
      simp only [zbs, zBi, zgd_t (iI_ink (z := i) (k := i) rfl (show i < 9 by omega) (by decide)), iI_Nn (show i ≤ 2147483647 by omega), hs i hi, hki1, zc273 (show zrn (aRm S f b i) by omega) (show zrn (f i) by omega)]
      cases q : aAb S b i
      · rw [q, cond_false] at e
        rw [cond_false, ← e]; exact ih
      · rw [q, cond_true] at e
        rw [cond_true, ← e]; exact ih
  rw [ez_32]
  simp only [zgd_t (iI_ink (z := b) (k := b) rfl (show b < 9 by omega) (by decide)), iI_Nn (show b ≤ 2147483647 by omega), hs b hb]
  exact key 0 (by omega)
def aCh (S : zS) (f : Nat → Int) : Nat → Int → Int → Int
  | 0, _, m => m
  | n + 1, z, m => if z < 0 then m else aCh S f n (aPar S z.toNat) (if f z.toNat < m then f z.toNat else m)
theorem aCh_le {S : zS} {f : Nat → Int} (w : wB S) : ∀ (n : Nat) (z m : Int), z < n → z < S 0 → -1 ≤ z → aCh S f n z m ≤ m ∧ (∀ u, aAbI S z u = true → aCh S f n z m ≤ f u) ∧ (aCh S f n z m = m ∨ ∃ u, aAbI S z u = true ∧ aCh S f n z m = f u)
  | 0, z, m, h, _, _ => ⟨Int.le_refl _, (fun u hu => by rw [aAbI_n (by omega)] at hu; cases hu), Or.inl rfl⟩
  | n + 1, z, m, h, hz, hz1 => by
    by_cases q : z < 0
    · have e : aCh S f (n + 1) z m = m := if_pos q
      rw [e]
      exact ⟨Int.le_refl _, (fun u hu => by rw [aAbI_n q] at hu; cases hu), Or.inl rfl⟩
    · obtain ⟨c, rfl⟩ := zint (show 0 ≤ z by omega)
      have e : aCh S f (n + 1) c m = aCh S f n (aPar S c) (if f c < m then f c else m) := if_neg q
      have w2 := w.2.2 c (by omega)
      have hp : aPar S c < c ∧ -1 ≤ aPar S c := by unfold aPar; omega
      obtain ⟨h1, h2, h3⟩ := aCh_le (f := f) w n (aPar S c) (if f c < m then f c else m) (by omega) (by omega) (by omega)
      rw [e]
      have hm : (if f c < m then f c else m) ≤ m ∧ (if f c < m then f c else m) ≤ f c := by split <;> omega
      refine ⟨by omega, fun u hu => ?_, ?_⟩
      · rw [aAbI_p, aAb_u w (by omega), Bool.or_eq_true] at hu
        rcases hu with hu | hu
        · have := Nat.eq_of_beq_eq_true hu
          subst this
          omega
        · exact h2 u hu
      · rcases h3 with h3 | ⟨u, hu, h3⟩
        · by_cases q2 : f c < m
          · rw [if_pos q2] at h3 ⊢
            exact Or.inr ⟨c, by rw [aAbI_p]; exact aAb_s, h3⟩
          · rw [if_neg q2] at h3 ⊢
            exact Or.inl h3
        · exact Or.inr ⟨u, by rw [aAbI_p, aAb_u w (by omega), hu, Bool.or_true], h3⟩
theorem aCh_e {S : zS} {f : Nat → Int} (w : wB S) {b : Nat} (hb : b < (S 0).toNat) : aCh S f 9 b (f b) = aRm S f b ((S 0).toNat) := by
  have w1 := w.2.1
  obtain ⟨h1, h2, h3⟩ := aCh_le (f := f) w 9 b (f b) (by omega) (by omega) (by omega)
  obtain ⟨u, k1, k2, k3⟩ := aRm_at (S := S) (f := f) (b := b) ((S 0).toNat) (Nat.le_refl _)
  have a1 : aCh S f 9 b (f b) ≤ aRm S f b ((S 0).toNat) := by
    rw [k3]
    exact h2 u (by rw [aAbI_p]; exact k2)
  have a2 : aRm S f b ((S 0).toNat) ≤ aCh S f 9 b (f b) := by
    rcases h3 with h3 | ⟨v, hv, h3⟩
    · rw [h3]; exact aRm_le hb aAb_s
    · rw [h3]
      rw [aAbI_p] at hv
      have := aAb_le w (b + 1) b (by omega) hb hv
      exact aRm_le (by omega) hv
  omega
theorem zm196_16 {d : Nat} {S : zS} {σ : zM} {f : Nat → Int} (hS : mS 61 S σ) (w : wB S) (hf : mF S f σ) (hr : fR S f) : ∀ (n : Nat) (z m : Int) (d1 : Option zV), z < n → z < S 0 → -1 ≤ z → -100000 ≤ m ∧ m ≤ 100000 → zrun (zev (d + 3)) zT_196 16 [some (.inr (.inr (0, 60))), d1, some (.inl (iI m)), some (.inl (iI z))] [] σ = some (iI (if 0 < aCh S f n z m then aCh S f n z m else 0), 0, σ)
  | 0, z, m, d1, h, _, _, hm => by
    rw [ez_196_16, if_pos (by rw [iI_lt0 (by omega)]; omega)]
    show (if iI m < 0 then some (iI 0, 0, σ) else _) = some (iI (if 0 < m then m else 0), 0, σ)
    simp only [iI_lt0 (show zrn m by omega)]
    by_cases q : m < 0
    · rw [if_pos q, if_neg (by omega)]
    · rw [if_neg q]
      by_cases q2 : 0 < m
      · rw [if_pos q2]
      · rw [if_neg q2, show m = 0 by omega]
  | n + 1, z, m, d1, h, hz, hz1, hm => by
    have w0 := w.1
    have w1 := w.2.1
    by_cases q : z < 0
    · have e : aCh S f (n + 1) z m = m := if_pos q
      rw [e, ez_196_16, if_pos (by rw [iI_lt0 (by omega)]; omega)]
      show (if iI m < 0 then some (iI 0, 0, σ) else _) = some (iI (if 0 < m then m else 0), 0, σ)
      simp only [iI_lt0 (show zrn m by omega)]
      by_cases q : m < 0
      · rw [if_pos q, if_neg (by omega)]
      · rw [if_neg q]
        by_cases q2 : 0 < m
        · rw [if_pos q2]
        · rw [if_neg q2, show m = 0 by omega]
    · obtain ⟨c, rfl⟩ := zint (show 0 ≤ z by omega)
      have e : aCh S f (n + 1) c m = aCh S f n (aPar S c) (if f c < m then f c else m) := if_neg q
      have w2 := w.2.2 c (by omega)
      have hp : aPar S c < c ∧ -1 ≤ aPar S c := by unfold aPar; omega
      have hf0 := hf
      obtain ⟨hh, ee, h1, h2, h3⟩ := hf0
      obtain ⟨a1, a2, a3⟩ := h3 c (by omega)
      have r1 := hr c (by omega)
      rw [e, ez_196_16, if_neg (by rw [iI_lt0 (by omega)]; omega)]
      simp only [zgd_t (iI_ink (z := c) (k := c) rfl (show c < 9 by omega) (by decide)), iI_Nn (show c ≤ 2147483647 by omega), h1 c (by omega), h2 c (by omega), iI_sub, ← a1, iI_lt (show zrn (f c) by omega) (show zrn m by omega), zm158 (d := d) hS (show c < 9 by omega), zbs]
      by_cases q2 : f c < m
      · rw [if_pos q2, if_pos q2]
        exact zm196_16 hS w hf hr n (aPar S c) (f c) none (by omega) (by omega) (by omega) r1
      · rw [if_neg q2, if_neg q2]
        exact zm196_16 hS w hf hr n (aPar S c) m none (by omega) (by omega) (by omega) hm
theorem zm196 {d b : Nat} {S : zS} {σ : zM} {f : Nat → Int} (hS : mS 61 S σ) (w : wB S) (hf : mF S f σ) (hr : fR S f) (hb : b < (S 0).toNat) : zev (d + 4) 196 [.inr (.inr (0, 60)), .inl (iI b)] σ = some (iI (aRoom S f b), 0, σ) := by
  have w1 := w.2.1
  have hf0 := hf
  obtain ⟨hh, ee, h1, h2, h3⟩ := hf0
  obtain ⟨a1, a2, a3⟩ := h3 b hb
  rw [ez_196]
  simp only [zgd_t (iI_ink (z := b) (k := b) rfl (show b < 9 by omega) (by decide)), iI_Nn (show b ≤ 2147483647 by omega), h1 b hb, h2 b hb, iI_sub, ← a1]
  rw [zm196_16 (d := d) hS w hf hr 9 b (f b) _ (by omega) (by omega) (by omega) (hr b hb), aCh_e w hb]
  rfl
