theorem iI_neg' (z : Int) : -iI z = iI (-z) := iI_neg z
theorem aSeat_0 {T : zS} {p : Nat} (w : wP T) (hp : p < (T 2).toNat) (h : aSeat T p < 0) : T (54 + 3 * p) = 0 := by
  have := w.2.2 p hp
  unfold aSeat at h
  omega
theorem aSit_back {T : zS} {p : Nat} {z : Int} (h : T (54 + 3 * p) = 0) : aSit (aSit T p z) p (-1) = T := by
  unfold aSit
  rw [zup_up]
  have := zup_same (S := T) (i := 54 + 3 * p) (v := -1 + 1) (by omega)
  exact this
theorem cS_c {g : Nat} {S T : zS} {f h : Nat → Int} {σ : zM} (hs : cS g S f σ) (e0 : T 0 = S 0) (e : ∀ b, b < (S 0).toNat → h b = f b) : cS g T h σ := fun b hb => by
  rw [e0] at hb
  rw [e b hb]; exact hs b hb
theorem aSp_sit0 {T : zS} {p b : Nat} (w : wA T) (hp : p < (T 2).toNat) (h : aSeat T p < 0) (hb : b < (T 0).toNat) : ∀ u, u < (T 0).toNat → aSp (aSit T p b) u = aLd T (aSp T) b (T (52 + 3 * p)) u := fun u hu => by
  have b0 := w.1.1
  rw [aSp_sit w hp (by omega) hu, aAbI_n h, cond_false]
  unfold aLd
  omega
theorem zcSit1 {d p b : Nat} {T : zS} {σ : zM} (w : wA T) (hA : cA 3 T σ) (hs : cS 3 T (aSp T) σ) (hp : p < (T 2).toNat) (h : aSeat T p < 0) (hb : b < (T 0).toNat) : ∃ τ, zev (d + 3) 28 [.inr (.inr (3, 0)), .inl (iI b), .inl (iI (T (52 + 3 * p)))] (zwI σ 3 18 p (iI b)) = some (0, 0, τ) ∧ zFr (WG 3) σ τ ∧ wA (aSit T p b) ∧ cA 3 (aSit T p b) τ ∧ cS 3 (aSit T p b) (aSp (aSit T p b)) τ ∧ zev (d + 3) 29 [.inr (.inr (3, 0))] τ = some (zcr (aCr (aSit T p b) (aSp (aSit T p b))) ((aSit T p b 0).toNat), 0, τ) := by
  have b0 := w.1.1
  have p1 := w.2.2.1.2.1
  have w2 : wA (aSit T p b) := aSit_w w hp (by omega)
  have hA2 : cA 3 (aSit T p b) (zwI σ 3 18 p (iI b)) := by
    have := cA_sit (p := p) (z := (b : Int)) hA w (by omega)
    rwa [show cE (b : Int) = b from if_neg (by omega)] at this
  have e0 : aSit T p b 0 = T 0 := aSit_n (by omega)
  have hs2 : cS 3 (aSit T p b) (aSp T) (zwI σ 3 18 p (iI b)) := fun u hu => by
    rw [zfe (by omega)]; exact hs u (by rw [e0] at hu; exact hu)
  obtain ⟨τ, g1, g2, g3⟩ := zc28n (d := d) (x := T (52 + 3 * p)) hA2.1 w2.1 hs2 (by rw [e0]; exact hb)
  have hA3 : cA 3 (aSit T p b) τ := cA_c hA2 (fun k a _ _ _ => zFr_f g2 (fun i => by omega)) (g2.1 _ _ _ (by omega))
  have hs3 : cS 3 (aSit T p b) (aSp (aSit T p b)) τ := cS_c g3 rfl fun u hu => by
    rw [e0] at hu
    rw [aSp_sit0 w hp h hb u hu]
    unfold aLd
    rw [aSit_ab (by omega) w.1 (by omega)]
  exact ⟨τ, g1, zFr_tt (zFr_w (by omega)) (zFr_i g2 fun _ _ _ q => by omega), w2, hA3, hs3, zc29 (d := d) hA3.1 hA3.2.1 w2.1 hs3 (aSp_r w2)⟩
theorem zcSit2 {d p b : Nat} {T : zS} {σ : zM} (w : wA T) (w2 : wA (aSit T p b)) (hA : cA 3 (aSit T p b) σ) (hs : cS 3 (aSit T p b) (aSp (aSit T p b)) σ) (hp : p < (T 2).toNat) (h : aSeat T p < 0) (hb : b < (T 0).toNat) : ∃ τ, zev (d + 3) 28 [.inr (.inr (3, 0)), .inl (iI b), .inl (iI (-(T (52 + 3 * p))))] σ = some (0, 0, τ) ∧ zFr (WG 3) σ (zwI τ 3 18 p (-9)) ∧ cA 3 T (zwI τ 3 18 p (-9)) ∧ cS 3 T (aSp T) (zwI τ 3 18 p (-9)) := by
  have p1 := w.2.2.1.2.1
  have b0 := w.1.1
  have e0 : aSit T p b 0 = T 0 := aSit_n (by omega)
  obtain ⟨τ, g1, g2, g3⟩ := zc28n (d := d) (x := -(T (52 + 3 * p))) hA.1 w2.1 hs (by rw [e0]; exact hb)
  have hA3 : cA 3 (aSit T p b) τ := cA_c hA (fun k a _ _ _ => zFr_f g2 (fun i => by omega)) (g2.1 _ _ _ (by omega))
  have hA4 := cA_sit (p := p) (z := -1) hA3 w2 (by omega)
  rw [aSit_back (aSeat_0 w.2.2.1 hp h)] at hA4
  refine ⟨τ, g1, zFr_tt (zFr_i g2 fun _ _ _ q => by omega) (zFr_w (by omega)), hA4, fun u hu => ?_⟩
  rw [zfe (by omega), g3 u (by rw [e0]; exact hu)]
  congr 1
  unfold aLd
  rw [aSp_sit0 w hp h hb u hu, aSit_ab (by omega) w.1 (by omega)]
  unfold aLd
  cases aAbI T b u
  · rw [cond_false, cond_false]; omega
  · rw [cond_true, cond_true]; omega
def aId (T : zS) (s : Int) : Nat → Nat → Int
  | 0, _ => -1
  | n + 1, k => if T (53 + 3 * k) = s ∧ aSeat T k < 0 then k else aId T s n (k + 1)
theorem aId_r {T : zS} {s : Int} : ∀ (n k : Nat), aId T s n k < 0 ∨ ∃ p : Nat, aId T s n k = p ∧ p < k + n ∧ T (53 + 3 * p) = s ∧ aSeat T p < 0
  | 0, k => Or.inl (by show (-1 : Int) < 0; omega)
  | n + 1, k => by
    have ih := aId_r (T := T) (s := s) n (k + 1)
    show (if T (53 + 3 * k) = s ∧ aSeat T k < 0 then (k : Int) else aId T s n (k + 1)) < 0 ∨ ∃ p : Nat, (if T (53 + 3 * k) = s ∧ aSeat T k < 0 then (k : Int) else aId T s n (k + 1)) = p ∧ _
    by_cases q : T (53 + 3 * k) = s ∧ aSeat T k < 0
    · rw [if_pos q]
      exact Or.inr ⟨k, rfl, by omega, q.1, q.2⟩
    · rw [if_neg q]
      rcases ih with h | ⟨p, h1, h2, h3⟩
      · exact Or.inl h
      · exact Or.inr ⟨p, h1, by omega, h3⟩
theorem aId_b {T : zS} {s : Int} (n k : Nat) : -1 ≤ aId T s n k := by
  induction n generalizing k with
  | zero => exact Int.le_refl _
  | succ n ih =>
    show -1 ≤ (if T (53 + 3 * k) = s ∧ aSeat T k < 0 then (k : Int) else aId T s n (k + 1))
    split
    · omega
    · exact ih (k + 1)
theorem zc39 {d g : Nat} {T : zS} {s : Int} {σ : zM} (w : wP T) (h0 : 0 ≤ T 0 ∧ T 0 ≤ 9) (hP : cP g T σ) (hs : 0 ≤ s ∧ s ≤ 1) : zev (d + 1) 39 [.inr (.inr (g, 15)), .inl (iI s)] σ = some (iI (cE (aId T s ((T 2).toNat) 0)), 0, σ) := by
  have p0 := w.1
  have p1 := w.2.1
  have key : ∀ n k, k + n = (T 2).toNat → zrun (zev d) zT_39 2 [some (.inr (.inr (g, 15))), some (.inl (iI s)), some (.inl (iI k))] [] σ = some (iI (cE (aId T s n k)), 0, σ) := by
    intro n
    induction n with
    | zero =>
      intro k hk
      rw [ez_39_2, hP.1, if_neg (by rw [iI_lt (by omega) (by omega)]; omega)]
      rfl
    | succ n ih =>
      intro k hk
      have w2 := w.2.2 k (by omega)
      have hp := hP.2 k (by omega)
      have hr := aSeat_r w (show k < (T 2).toNat by omega)
      have e : aId T s (n + 1) k = if T (53 + 3 * k) = s ∧ aSeat T k < 0 then (k : Int) else aId T s n (k + 1) := rfl
      have e9 : (iI (cE (aSeat T k)) = -9) = (aSeat T k < 0) := by
        rw [show (-9 : Int32) = iI (-9) by decide, iI_eq (by unfold cE; split <;> omega) (by decide)]
        unfold cE
        split
        · rename_i q; simp [q]
        · rename_i q; simp [q]; omega
      rw [ez_39_2, hP.1, if_pos (by rw [iI_lt (by omega) (by omega)]; omega)]
      simp only [zgd_t (iI_ink (z := k) (k := k) rfl (show k < 8 by omega) (by decide)), iI_Nn (show k ≤ 2147483647 by omega), hp.2.1, hp.2.2, iI_eq (show zrn (T (53 + 3 * k)) by omega) (show zrn s by omega), e9, hki1]
      rw [e]
      by_cases q1 : T (53 + 3 * k) = s
      · rw [if_pos q1]
        by_cases q2 : aSeat T k < 0
        · rw [if_pos q2, if_pos ⟨q1, q2⟩, show cE (k : Int) = k from if_neg (by omega)]
        · rw [if_neg q2, if_neg (fun z => q2 z.2)]; exact ih (k + 1) (by omega)
      · rw [if_neg q1, if_neg (fun z => q1 z.1)]; exact ih (k + 1) (by omega)
  rw [ez_39]
  exact key _ 0 (by omega)
theorem zm210 {d : Nat} {T : zS} {s : Int} {σ : zM} (w : wP T) (h0 : 0 ≤ T 0 ∧ T 0 ≤ 9) (hS : mS 61 T σ) (hs : 0 ≤ s ∧ s ≤ 1) : zev (d + 4) 210 [.inr (.inr (0, 60)), .inl (iI s)] σ = some (iI (aId T s ((T 2).toNat) 0), 0, σ) := by
  have p0 := w.1
  have p1 := w.2.1
  have key : ∀ n k, k + n = (T 2).toNat → zrun (zev (d + 3)) zT_210 2 [some (.inr (.inr (0, 60))), some (.inl (iI s)), some (.inl (iI k))] [] σ = some (iI (aId T s n k), 0, σ) := by
    intro n
    induction n with
    | zero =>
      intro k hk
      rw [ez_210_2, hS 2 (by decide), if_neg (by rw [iI_lt (by omega) (by omega)]; omega)]
      rfl
    | succ n ih =>
      intro k hk
      have w2 := w.2.2 k (by omega)
      have hr := aSeat_r w (show k < (T 2).toNat by omega)
      have e : aId T s (n + 1) k = if T (53 + 3 * k) = s ∧ aSeat T k < 0 then (k : Int) else aId T s n (k + 1) := rfl
      have e8 : zev (d + 3) 178 [.inr (.inr (0, 60)), .inl (iI k), .inl 1] σ = some (iI (T (53 + 3 * k)), 0, σ) := by
        have := zm178 (d := d + 1) (p := k) (w := 1) hS (by omega)
        rw [show 52 + 3 * k + 1 = 53 + 3 * k by omega] at this
        exact this
      rw [ez_210_2, hS 2 (by decide), if_pos (by rw [iI_lt (by omega) (by omega)]; omega)]
      simp only [e8, zm179 (d := d) hS (show k < 8 by omega), zbs, iI_eq (show zrn (T (53 + 3 * k)) by omega) (show zrn s by omega), iI_lt0 (show zrn (aSeat T k) by omega), hki1]
      rw [e]
      by_cases q1 : T (53 + 3 * k) = s
      · rw [if_pos q1]
        by_cases q2 : aSeat T k < 0
        · rw [if_pos q2, if_pos ⟨q1, q2⟩]
        · rw [if_neg q2, if_neg (fun z => q2 z.2)]; exact ih (k + 1) (by omega)
      · rw [if_neg q1, if_neg (fun z => q1 z.1)]; exact ih (k + 1) (by omega)
  rw [ez_210]
  exact key _ 0 (by omega)
def gWo (s v : Int) : Int := if v = 2 then 1 else if v = s then 2 else 0
def gBst (s : Int) (f : Nat → Int) (brk : Nat → Bool) : Nat → Nat → Int → Int
  | 0, _, b => b
  | n + 1, k, b => bif brk k then gBst s f brk n (k + 1) b else gBst s f brk n (k + 1) (if b < 0 then f k else if gWo s b < gWo s (f k) then f k else b)
theorem gBst_r {s : Int} {f : Nat → Int} {brk : Nat → Bool} (hf : ∀ k, 0 ≤ f k ∧ f k ≤ 2) : ∀ (n k : Nat) (b : Int), -1 ≤ b ∧ b ≤ 2 → -1 ≤ gBst s f brk n k b ∧ gBst s f brk n k b ≤ 2
  | 0, _, _, h => h
  | n + 1, k, b, h => by
    have := hf k
    show -1 ≤ (bif brk k then gBst s f brk n (k + 1) b else gBst s f brk n (k + 1) (if b < 0 then f k else if gWo s b < gWo s (f k) then f k else b)) ∧ (bif brk k then gBst s f brk n (k + 1) b else gBst s f brk n (k + 1) (if b < 0 then f k else if gWo s b < gWo s (f k) then f k else b)) ≤ 2
    cases brk k
    · rw [cond_false]
      refine gBst_r hf n (k + 1) _ ?_
      split
      · omega
      · split <;> omega
    · rw [cond_true]; exact gBst_r hf n (k + 1) b h
theorem gWo_2 {s v : Int} : gWo s v ≤ 2 := by
  unfold gWo
  split
  · omega
  · split <;> omega
theorem gBst_s {s : Int} {f : Nat → Int} {brk : Nat → Bool} (hs : 0 ≤ s ∧ s ≤ 1) : ∀ (n k : Nat), gBst s f brk n k s = s
  | 0, _ => rfl
  | n + 1, k => by
    have ih := gBst_s (f := f) (brk := brk) hs n (k + 1)
    show (bif brk k then gBst s f brk n (k + 1) s else gBst s f brk n (k + 1) (if s < 0 then f k else if gWo s s < gWo s (f k) then f k else s)) = s
    have h2 : gWo s s = 2 := by
      unfold gWo
      rw [if_neg (by omega), if_pos rfl]
    have := gWo_2 (s := s) (v := f k)
    rw [if_neg (by omega), if_neg (by omega), ih]
    cases brk k <;> rfl
def gV : Nat → zS → Int → Int
  | 0, _, _ => 2
  | n + 1, T, s => if aId T s ((T 2).toNat) 0 < 0 then 2 else if gBst s (fun b => bif aCk (aSit T (aId T s ((T 2).toNat) 0).toNat b) then 1 - s else gV n (aSit T (aId T s ((T 2).toNat) 0).toNat b) (1 - s)) (aBrk T) ((T 0).toNat) 0 (-1) < 0 then 2 else gBst s (fun b => bif aCk (aSit T (aId T s ((T 2).toNat) 0).toNat b) then 1 - s else gV n (aSit T (aId T s ((T 2).toNat) 0).toNat b) (1 - s)) (aBrk T) ((T 0).toNat) 0 (-1)
def gL (n : Nat) (T : zS) (s : Int) (p b : Nat) : Int := bif aCk (aSit T p b) then 1 - s else gV n (aSit T p b) (1 - s)
theorem gV_s {n : Nat} {T : zS} {s : Int} : gV (n + 1) T s = if aId T s ((T 2).toNat) 0 < 0 then 2 else if gBst s (gL n T s (aId T s ((T 2).toNat) 0).toNat) (aBrk T) ((T 0).toNat) 0 (-1) < 0 then 2 else gBst s (gL n T s (aId T s ((T 2).toNat) 0).toNat) (aBrk T) ((T 0).toNat) 0 (-1) := rfl
theorem gV_r : ∀ (n : Nat) (T : zS) (s : Int), 0 ≤ s ∧ s ≤ 1 → 0 ≤ gV n T s ∧ gV n T s ≤ 2
  | 0, _, _, _ => ⟨by show (0 : Int) ≤ 2; omega, by show (2 : Int) ≤ 2; omega⟩
  | n + 1, T, s, hs => by
    have h := gBst_r (s := s) (f := gL n T s (aId T s ((T 2).toNat) 0).toNat) (brk := aBrk T) (fun b => by
      have := gV_r n (aSit T (aId T s ((T 2).toNat) 0).toNat b) (1 - s) (by omega)
      unfold gL
      cases aCk (aSit T (aId T s ((T 2).toNat) 0).toNat b)
      · rw [cond_false]; exact this
      · rw [cond_true]; omega) ((T 0).toNat) 0 (-1) (by omega)
    rw [gV_s]
    split
    · omega
    · split <;> omega
theorem gL_r (n : Nat) (T : zS) (s : Int) (p b : Nat) (hs : 0 ≤ s ∧ s ≤ 1) : 0 ≤ gL n T s p b ∧ gL n T s p b ≤ 2 := by
  have := gV_r n (aSit T p b) (1 - s) (by omega)
  unfold gL
  cases aCk (aSit T p b)
  · rw [cond_false]; exact this
  · rw [cond_true]; omega
theorem zc74 {d n p b : Nat} {T : zS} {σ : zM} (IH : ∀ (T : zS) (s : Int) (σ : zM), 0 ≤ s ∧ s ≤ 1 → wA T → cA 3 T σ → cS 3 T (aSp T) σ → ∃ τ, zev (d + 6) 73 [.inr (.inr (0, 35)), .inl (iI s), .inl (iI n)] σ = some (iI (gV n T s), 0, τ) ∧ zFr (WG 3) σ τ ∧ cA 3 T τ ∧ cS 3 T (aSp T) τ) (w : wA T) (hA : cA 3 T σ) (hs : cS 3 T (aSp T) σ) (hn : n ≤ 4) (hp : p < (T 2).toNat) (h : aSeat T p < 0) (hb : b < (T 0).toNat) : ∃ τ, zev (d + 7) 74 [.inr (.inr (0, 35)), .inl (iI p), .inl (iI b), .inl (iI ((n + 1 : Nat) : Int))] σ = some (iI (gL n T (T (53 + 3 * p)) p b), 0, τ) ∧ zFr (WG 3) σ τ ∧ cA 3 T τ ∧ cS 3 T (aSp T) τ := by
  have p1 := w.2.2.1.2.1
  have w2 := w.2.2.1.2.2 p hp
  have hP := hA.2.2.2.1.2 p hp
  have b0 := w.1.1
  have b1 := w.1.2.1
  obtain ⟨τ, g1, g2, g3, g4, g5, g6⟩ := zcSit1 (d := d + 3) w hA hs hp h hb
  have g1 : zev (d + 6) 28 [.inr (.inr (3, 0)), .inl (iI b), .inl (iI (T (52 + 3 * p)))] (zwI σ 3 18 p (iI b)) = _ := g1
  have g6 : zev (d + 6) 29 [.inr (.inr (3, 0))] τ = _ := g6
  have fin : ∀ (υ : zM) (v : Int) (d3 d4 d6 : Option zV), zFr (WG 3) σ υ → cA 3 (aSit T p b) υ → cS 3 (aSit T p b) (aSp (aSit T p b)) υ → ∃ τ, zrun (zev (d + 6)) zT_74 79 [some (.inr (.inr (0, 35))), some (.inl (iI p)), some (.inl (iI b)), d3, d4, some (.inl (iI (T (52 + 3 * p)))), d6] [.inl (iI v)] υ = some (iI v, 0, τ) ∧ zFr (WG 3) σ τ ∧ cA 3 T τ ∧ cS 3 T (aSp T) τ := by
    intro υ v d3 d4 d6 f hA' hs'
    obtain ⟨τ', e1, e2, e3, e4⟩ := zcSit2 (d := d + 3) w g3 hA' hs' hp h hb
    have e1 : zev (d + 6) 28 [.inr (.inr (3, 0)), .inl (iI b), .inl (iI (-(T (52 + 3 * p))))] υ = _ := e1
    rw [ez_74_79, iI_neg', e1]
    simp only [zbs, zgd_t (iI_ink (z := p) (k := p) rfl (show p < 8 by omega) (by decide)), iI_Nn (show p ≤ 2147483647 by omega)]
    exact ⟨_, rfl, zFr_tt f e2, e3, e4⟩
  have i1 : ∀ z : Int, (1 : Int32) - iI z = iI (1 - z) := fun z => iI_sub 1 z
  have hn1 : iI ((n + 1 : Nat) : Int) - 1 = iI n := by
    show iI _ - iI 1 = _
    rw [iI_sub]; congr 1; omega
  rw [ez_74]
  simp only [zgd_t (iI_ink (z := p) (k := p) rfl (show p < 8 by omega) (by decide)), iI_Nn (show p ≤ 2147483647 by omega), hP.1, hP.2.1, g1, zbs, g6, zCk, i1, hn1]
  unfold gL
  cases q : aCk (aSit T p b)
  · obtain ⟨υ, c1, c2, c3, c4⟩ := IH (aSit T p b) (1 - T (53 + 3 * p)) τ (by omega) g3 g4 g5
    rw [cond_false, cond_false, c1]
    simp only [zbs]
    exact fin υ _ _ _ _ (zFr_tt g2 c2) c3 c4
  · rw [cond_true, cond_true]
    exact fin τ _ _ _ _ g2 g4 g5
theorem zc73 : ∀ (n d : Nat) (T : zS) (s : Int) (σ : zM), n ≤ 4 → 0 ≤ s ∧ s ≤ 1 → wA T → cA 3 T σ → cS 3 T (aSp T) σ → ∃ τ, zev (d + 2 * n + 6) 73 [.inr (.inr (0, 35)), .inl (iI s), .inl (iI n)] σ = some (iI (gV n T s), 0, τ) ∧ zFr (WG 3) σ τ ∧ cA 3 T τ ∧ cS 3 T (aSp T) τ
  | 0, d, T, s, σ, hn, hs, w, hA, hS => by
    have e39 := zc39 (d := d + 4) (s := s) w.2.2.1 ⟨w.1.1, w.1.2.1⟩ hA.2.2.2.1 hs
    show ∃ τ, zev (d + 5 + 1) 73 _ σ = _ ∧ _
    rw [ez_73]
    simp only [e39, zbs]
    rw [if_neg (by decide)]
    exact ⟨σ, rfl, zFr_r σ, hA, hS⟩
  | n + 1, d, T, s, σ, hn, hs, w, hA, hS => by
    have p0 := w.2.2.1.1
    have p1 := w.2.2.1.2.1
    have b0 := w.1.1
    have b1 := w.1.2.1
    have e39 : zev (d + 2 * n + 7) 39 [.inr (.inr (3, 15)), .inl (iI s)] σ = _ := zc39 (d := d + 2 * n + 6) (s := s) w.2.2.1 ⟨w.1.1, w.1.2.1⟩ hA.2.2.2.1 hs
    have hd : d + 2 * (n + 1) + 6 = d + 2 * n + 7 + 1 := by omega
    have i1 : (1 : Int32) - iI s = iI (1 - s) := iI_sub 1 s
    have hb := aId_b (T := T) (s := s) ((T 2).toNat) 0
    have e9 : (iI (cE (aId T s ((T 2).toNat) 0)) = -9) = (aId T s ((T 2).toNat) 0 < 0) := by
      have hr := aId_r (T := T) (s := s) ((T 2).toNat) 0
      have : aId T s ((T 2).toNat) 0 ≤ 8 := by
        rcases hr with h | ⟨p, h1, h2, -⟩ <;> omega
      rw [show (-9 : Int32) = iI (-9) by decide, iI_eq (by unfold cE; split <;> omega) (by decide)]
      unfold cE
      split
      · rename_i q; simp [q]
      · rename_i q; simp [q]; omega
    rw [hd, ez_73]
    simp only [e39, zbs, e9, i1]
    rw [if_pos (show (0 : Int32) < iI ((n + 1 : Nat) : Int) by rw [iI_0lt (by omega)]; omega), gV_s]
    by_cases q : aId T s ((T 2).toNat) 0 < 0
    · rw [if_pos q, if_pos q]
      exact ⟨σ, rfl, zFr_r σ, hA, hS⟩
    rw [if_neg q, if_neg q, show cE (aId T s ((T 2).toNat) 0) = aId T s ((T 2).toNat) 0 from if_neg q]
    obtain ⟨p, h1, h2, h3, h4⟩ := (aId_r (T := T) (s := s) ((T 2).toNat) 0).resolve_left q
    have h2 : p < (T 2).toNat := by omega
    rw [h1, Int.toNat_natCast]
    have key : ∀ (m k : Nat) (B : Int) (σ : zM) (d7 : Option zV), k + m = (T 0).toNat → -1 ≤ B ∧ B ≤ 2 → cA 3 T σ → cS 3 T (aSp T) σ → ∃ τ, zrun (zev (d + 2 * n + 7)) zT_73 35 [some (.inr (.inr (0, 35))), some (.inl (iI s)), some (.inl (iI ((n + 1 : Nat) : Int))), some (.inl (iI p)), some (.inl (if B < 0 then 0 else 1)), some (.inl (iI (if B < 0 then 1 - s else B))), some (.inl (iI k)), d7] [] σ = some (iI (if gBst s (gL n T s p) (aBrk T) m k B < 0 then 2 else gBst s (gL n T s p) (aBrk T) m k B), 0, τ) ∧ zFr (WG 3) σ τ ∧ cA 3 T τ ∧ cS 3 T (aSp T) τ := by
      intro m
      induction m with
      | zero =>
        intro k B σ d7 hk hB hA hS
        rw [ez_73_35, hA.1.1, if_neg (by rw [iI_lt (by omega) (by omega)]; omega)]
        refine ⟨σ, ?_, zFr_r σ, hA, hS⟩
        show _ = some (iI (if B < 0 then 2 else B), 0, σ)
        by_cases q : B < 0
        · rw [if_pos q, if_pos q, if_pos q, if_pos rfl]; rfl
        · rw [if_neg q, if_neg q, if_neg q, if_neg (by decide)]
      | succ m ih =>
        intro k B σ d7 hk hB hA hS
        have e5 : (iI (if B < 0 then 1 - s else B) = iI s) = (B = s) := by
          rw [iI_eq (by split <;> omega) (by omega)]
          split
          · simp only [eq_iff_iff]; omega
          · rfl
        rw [ez_73_35, hA.1.1, if_pos (by rw [iI_lt (by omega) (by omega)]; omega)]
        simp only [e5]
        by_cases q1 : B = s
        · rw [if_pos q1, if_neg (show ¬ B < 0 by omega), if_neg (show ¬ B < 0 by omega), if_neg (by decide), q1, gBst_s hs, if_neg (by omega)]
          exact ⟨σ, rfl, zFr_r σ, hA, hS⟩
        rw [if_neg q1]
        have e14 : zev (d + 2 * n + 7) 14 [.inr (.inr (3, 1)), .inl (iI k)] σ = some (zB (!aBrk T k), 0, σ) := by
          have := zc14 (d := d + 2 * n + 5) (z := (k : Int)) hA.1 hA.2.1 w.1 (by omega)
          rw [decide_eq_true (by omega), Bool.true_and, Int.toNat_natCast] at this
          exact this
        have eg : gBst s (gL n T s p) (aBrk T) (m + 1) k B = bif aBrk T k then gBst s (gL n T s p) (aBrk T) m (k + 1) B else gBst s (gL n T s p) (aBrk T) m (k + 1) (if B < 0 then gL n T s p k else if gWo s B < gWo s (gL n T s p k) then gL n T s p k else B) := rfl
        rw [eg]
        simp only [e14, zbs, zBi, hki1]
        cases q2 : aBrk T k
        case true =>
          rw [Bool.not_true, cond_false, cond_true]
          exact ih (k + 1) B σ none (by omega) hB hA hS
        case false =>
          rw [Bool.not_false, cond_true, cond_false]
          obtain ⟨τ, g1, g2, g3, g4⟩ := zc74 (d := d + 2 * n) (b := k) (fun T s σ a b c e => zc73 n d T s σ (by omega) a b c e) w hA hS (by omega) h2 h4 (by omega)
          rw [h3] at g1
          have g1 : zev (d + 2 * n + 7) 74 [.inr (.inr (0, 35)), .inl (iI p), .inl (iI k), .inl (iI ((n + 1 : Nat) : Int))] σ = _ := g1
          have hl := gL_r n T s p k hs
          rw [g1]
          simp only [zbs, i1, iI_eq (show zrn (gL n T s p k) by omega) (show zrn (1 - s) by omega)]
          have h1' : (1 : Int32) = if (1 : Int) < 0 then 0 else 1 := by decide
          by_cases q3 : gL n T s p k = 1 - s
          · have eB : (if B < 0 then gL n T s p k else if gWo s B < gWo s (gL n T s p k) then gL n T s p k else B) = if B < 0 then 1 - s else B := by
              by_cases q4 : B < 0
              · rw [if_pos q4, if_pos q4, q3]
              · rw [if_neg q4, if_neg q4, if_neg]
                rw [q3]
                have : gWo s (1 - s) = 0 := by
                  unfold gWo
                  rw [if_neg (by omega), if_neg (by omega)]
                have : 0 ≤ gWo s B := by
                  unfold gWo
                  repeat' split
                  all_goals omega
                omega
            rw [if_pos q3, eB]
            obtain ⟨υ, f1, f2, f3, f4⟩ := ih (k + 1) (if B < 0 then 1 - s else B) τ (some (.inl (iI (gL n T s p k)))) (by omega) (by split <;> omega) g3 g4
            have nB : ¬ (if B < 0 then 1 - s else B) < 0 := by split <;> omega
            rw [if_neg nB, if_neg nB] at f1
            exact ⟨υ, f1, zFr_tt g2 f2, f3, f4⟩
          · have eB : (if B < 0 then gL n T s p k else if gWo s B < gWo s (gL n T s p k) then gL n T s p k else B) = gL n T s p k := by
              by_cases q4 : B < 0
              · rw [if_pos q4]
              · rw [if_neg q4]
                by_cases q5 : gWo s B < gWo s (gL n T s p k)
                · rw [if_pos q5]
                · rw [if_neg q5]
                  by_cases a2 : B = 2
                  · by_cases b2 : gL n T s p k = 2
                    · omega
                    · exfalso; apply q5
                      unfold gWo
                      rw [if_pos a2, if_neg b2, if_pos (by omega)]; omega
                  · exfalso; apply q5
                    have : gWo s B = 0 := by
                      unfold gWo
                      rw [if_neg a2, if_neg q1]
                    rw [this]
                    unfold gWo
                    split
                    · omega
                    · rw [if_pos (by omega)]; omega
            rw [if_neg q3, eB]
            obtain ⟨υ, f1, f2, f3, f4⟩ := ih (k + 1) (gL n T s p k) τ (some (.inl (iI (gL n T s p k)))) (by omega) (by omega) g3 g4
            have nB : ¬ gL n T s p k < 0 := by omega
            rw [if_neg nB, if_neg nB] at f1
            exact ⟨υ, f1, zFr_tt g2 f2, f3, f4⟩
    exact key ((T 0).toNat) 0 (-1) σ none (by omega) (by omega) hA hS
