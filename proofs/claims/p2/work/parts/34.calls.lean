theorem aRm_c {S T : zS} {f : Nat → Int} {b : Nat} (h : ∀ u, u < 9 → aAb T b u = aAb S b u) : ∀ {n : Nat}, n ≤ 9 → aRm T f b n = aRm S f b n
  | 0, _ => rfl
  | n + 1, hn => by
    show (bif aAb T b n then (if f n < aRm T f b n then f n else aRm T f b n) else aRm T f b n) = (bif aAb S b n then (if f n < aRm S f b n then f n else aRm S f b n) else aRm S f b n)
    rw [h n (by omega), aRm_c h (by omega)]
theorem aRoom_c {S T : zS} {f : Nat → Int} {b : Nat} (w : wB S) (hb : b < (S 0).toNat) (h0 : T 0 = S 0) (h : ∀ b, b < 9 → T (8 + 5 * b) = S (8 + 5 * b)) : aRoom T f b = aRoom S f b := by
  have w1 := w.2.1
  unfold aRoom
  rw [h0, aRm_c (fun u _ => aAb_c h w hb) (by omega)]
theorem aRoom_0 {S : zS} {f : Nat → Int} {b : Nat} (hf : fR S f) (hb : b < (S 0).toNat) : 0 ≤ aRoom S f b ∧ aRoom S f b ≤ 100000 := by
  obtain ⟨u, h1, h2, h3⟩ := aRm_at (S := S) (f := f) (b := b) ((S 0).toNat) (Nat.le_refl _)
  have : -100000 ≤ f u ∧ f u ≤ 100000 := by
    rcases h1 with rfl | h1
    · exact hf _ hb
    · exact hf u h1
  unfold aRoom
  split <;> omega
def aBst (S : zS) (r : Nat → Int) : Nat → Int
  | 0 => -1
  | n + 1 => if aBrk S n = false ∧ (aBst S r n < 0 ∨ r (aBst S r n).toNat < r n) then (n : Int) else aBst S r n
theorem aBst_r {S : zS} {r : Nat → Int} : ∀ (n : Nat), -1 ≤ aBst S r n ∧ aBst S r n < n
  | 0 => ⟨by show -1 ≤ (-1 : Int); omega, by show (-1 : Int) < ((0 : Nat) : Int); omega⟩
  | n + 1 => by
    have h := aBst_r (S := S) (r := r) n
    show -1 ≤ (if _ then _ else _) ∧ (if _ then _ else _) < _
    split <;> omega
theorem zc107 {d p : Nat} {S : zS} {σ : zM} (hA : cA 0 S σ) (wa : wA S) (hp : p < (S 2).toNat) : ∃ τ, zev (d + 6) 107 [.inr (.inr (0, 30)), .inl (iI p)] σ = some (0, 0, τ) ∧ zFr (WG 1) σ τ ∧ cA 1 (aSit S p (-1)) τ ∧ cS 1 (aSit S p (-1)) (aSp (aSit S p (-1))) τ := by
  have p1 := wa.2.2.1.2.1
  have b0 := wa.1.1
  obtain ⟨τ, c1, c2, c3⟩ := zc25 (d := d) (g := 1) (by decide) wa hA
  have h2 := cA_sit (p := p) (z := -1) c3 wa (by omega)
  have w2 := aSit_w (p := p) (z := -1) wa hp ⟨by omega, by omega⟩
  obtain ⟨τ1, b1, b2, b3⟩ := zc27 (d := d) h2 w2
  have b1 : zev (d + 5) 27 [.inr (.inr (1, 0))] (zwI τ 1 18 p (-9)) = some (0, 0, τ1) := b1
  rw [ez_107]
  simp only [c1, zbs, zgd_t (iI_ink (z := p) (k := p) rfl (show p < 8 by omega) (by decide)), iI_Nn (show p ≤ 2147483647 by omega), b1]
  exact ⟨τ1, rfl, zFr_tt c2 (zFr_tt (zFr_w ⟨rfl, by omega⟩) (zFr_i b2 fun _ _ _ q => ⟨q.1, by omega⟩)), cA_s h2 b2, b3⟩
theorem zx_102 {x : zXx} (w : WX x) (z : Int) (hz : zrn z) : zCall 102 198 [.inl (iI z)] x := by
  have wb := w.1.1
  have b0 := wb.1
  have b1 := wb.2.1
  have wp := w.1.2.2.1
  have p0 := wp.1
  have p1 := wp.2.1
  by_cases q : 0 ≤ z ∧ z < x.1 2
  case neg =>
    refine zCq (-1) w (fun σ h => ?_) (fun σ h => ?_)
    · rw [ez_102]
      simp only [zc37 h.1.2.2.2.1.1 ⟨p0, p1⟩ hz, zbs, zBi, decide_eq_false q, cond_false]
      exact ⟨σ, rfl, zFr_r σ⟩
    · rw [ez_198]
      simp only [zm151 (d := 61) h.1 ⟨p0, p1⟩ hz, zbs, zBi, decide_eq_false q, cond_false]
      exact ⟨σ, rfl, zFr_r σ, h.1⟩
  case pos =>
    obtain ⟨p, rfl⟩ := zint q.1
    have hp : p < (x.1 2).toNat := by omega
    have w2 := aSit_w (p := p) (z := -1) w.1 hp ⟨by omega, by omega⟩
    have e0 : aSit x.1 p (-1) 0 = x.1 0 := aSit_n (by omega)
    have hf : fR x.1 (aSp (aSit x.1 p (-1))) := fun b hb => aSp_r w2 b (by rw [e0]; exact hb)
    have hf2 := aSp_r w2
    have hrc : ∀ b, b < (x.1 0).toNat → aRoom (aSit x.1 p (-1)) (aSp (aSit x.1 p (-1))) b = aRoom x.1 (aSp (aSit x.1 p (-1))) b := fun b hb => aRoom_c wb hb e0 (fun b _ => aSit_n (by omega))
    have hbr : ∀ b, b < 9 → aBrk (aSit x.1 p (-1)) b = aBrk x.1 b := fun b hb => by unfold aBrk; rw [aSit_n (by omega)]
    generalize hr : aRoom x.1 (aSp (aSit x.1 p (-1))) = r at hrc
    have hrr : ∀ b, b < (x.1 0).toNat → 0 ≤ r b ∧ r b ≤ 100000 := fun b hb => by rw [← hr]; exact aRoom_0 hf hb
    refine zCq (if aBst x.1 r ((x.1 0).toNat) < 0 then -3 else iI (aBst x.1 r ((x.1 0).toNat))) w (fun σ h => ?_) (fun σ h => ?_)
    · obtain ⟨τ, c1, c2, c3, c4⟩ := zc107 (d := 57) h.1 w.1 hp
      rw [ez_102]
      simp only [zc37 h.1.2.2.2.1.1 ⟨p0, p1⟩ hz, zbs, zBi, decide_eq_true q, cond_true, c1]
      refine ⟨τ, ?_, zFr_i c2 fun _ _ _ q => by omega⟩
      have key : ∀ i, i ≤ (x.1 0).toNat → ∀ d1 : Option zV, zrun (zev 63) zT_102 29 [some (.inr (.inr (0, 30))), d1, some (.inl (iI (if aBst x.1 r i < 0 then -1 else r (aBst x.1 r i).toNat))), some (.inl (if aBst x.1 r i < 0 then -3 else iI (aBst x.1 r i))), some (.inl (iI i))] [] τ = some (if aBst x.1 r ((x.1 0).toNat) < 0 then -3 else iI (aBst x.1 r ((x.1 0).toNat)), 0, τ) := by
        intro i hi
        refine zloop (n := (x.1 0).toNat) (P := fun i => ∀ d1 : Option zV, zrun (zev 63) zT_102 29 [some (.inr (.inr (0, 30))), d1, some (.inl (iI (if aBst x.1 r i < 0 then -1 else r (aBst x.1 r i).toNat))), some (.inl (if aBst x.1 r i < 0 then -3 else iI (aBst x.1 r i))), some (.inl (iI i))] [] τ = some (if aBst x.1 r ((x.1 0).toNat) < 0 then -3 else iI (aBst x.1 r ((x.1 0).toNat)), 0, τ)) ?_ ?_ hi
        · intro d1
          rw [ez_102_29, c3.1.1, e0, if_neg (by rw [iI_lt (by omega) (by omega)]; omega)]
        · intro i hi ih d1
          have hl := aBst_r (S := x.1) (r := r) i
          have e : aBst x.1 r (i + 1) = if aBrk x.1 i = false ∧ (aBst x.1 r i < 0 ∨ r (aBst x.1 r i).toNat < r i) then (i : Int) else aBst x.1 r i := rfl
          have h32 : zev 63 32 [.inr (.inr (1, 0)), .inl (iI i)] τ = some (iI (r i), 0, τ) := by
            rw [← hrc i hi]
            exact zc32 (d := 60) c3.1 w2.1 c4 hf2 (by rw [e0]; exact hi)
          have r1 := hrr i hi
          rw [ez_102_29, c3.1.1, e0, if_pos (by rw [iI_lt (by omega) (by omega)]; omega), zc14 (d := 61) c3.1 c3.2.1 w2.1 (by omega)]
          simp only [zbs, zBi, Int.toNat_natCast, e0, decide_eq_true (show (0 : Int) ≤ i ∧ (i : Int) < x.1 0 by omega), Bool.true_and, hbr i (by omega), hki1, h32]
          cases hh : aBrk x.1 i
          · simp only [Bool.not_false, cond_true]
            by_cases q2 : aBst x.1 r i < 0
            · rw [if_pos (⟨hh, Or.inl q2⟩ : aBrk x.1 i = false ∧ _)] at e
              rw [if_pos q2, if_pos (by show iI (-1) < iI (r i); rw [iI_lt (by omega) (by omega)]; omega)]
              have := ih none
              rw [e, if_neg (by omega), if_neg (by omega), Int.toNat_natCast] at this
              exact this
            · obtain ⟨m, hm⟩ := zint (show 0 ≤ aBst x.1 r i by omega)
              rw [hm] at hl e q2 ⊢
              rw [Int.toNat_natCast] at e ⊢
              have r2 := hrr m (by omega)
              rw [if_neg q2]
              by_cases q3 : r m < r i
              · rw [if_pos (⟨hh, Or.inr q3⟩ : aBrk x.1 i = false ∧ _)] at e
                rw [if_pos (by rw [iI_lt (by omega) (by omega)]; exact q3)]
                have := ih none
                rw [e, if_neg (by omega), if_neg (by omega), Int.toNat_natCast] at this
                exact this
              · rw [if_neg (fun z => z.2.elim (fun y => by omega) q3)] at e
                rw [if_neg (by rw [iI_lt (by omega) (by omega)]; exact q3)]
                have := ih none
                rw [e, if_neg q2, if_neg q2, Int.toNat_natCast] at this
                rw [if_neg q2]
                exact this
          · simp only [Bool.not_true, cond_false]
            rw [if_neg (fun z => by rw [hh] at z; cases z.1)] at e
            have := ih none
            rw [e] at this
            exact this
      exact key 0 (by omega) _
    · have h79 := zm179 (d := 60) h.1 (show p < 8 by omega)
      have h80 := zm180 (d := 61) (z := -1) (σ := σ) (show p < 8 by omega)
      have h80 : zev 63 180 [.inr (.inr (0, 60)), .inl (iI p), .inl (-1)] σ = _ := h80
      have hS2 : mS 61 (aSit x.1 p (-1)) (zwI σ 0 61 (54 + 3 * p) (iI (-1 + 1))) := mS_w h.1
      obtain ⟨τ, c1, c2, c3, c4, c5⟩ := zm172 (d := 56) hS2 w2
      have hS3 : mS 61 x.1 (zwI τ 0 61 (54 + 3 * p) (iI (aSeat x.1 p + 1))) := by
        have := mS_up (i := 54 + 3 * p) (v := aSeat x.1 p + 1) c3
        unfold aSit at this
        rw [zup_up, zup_same (by unfold aSeat; omega)] at this
        exact this
      have hF : mF x.1 (aSp (aSit x.1 p (-1))) (zwI τ 0 61 (54 + 3 * p) (iI (aSeat x.1 p + 1))) := by
        obtain ⟨h', e', a1, a2, a3⟩ := mF_sp w2 c4 c5
        exact ⟨h', e', fun b hb => by rw [zfe (by omega)]; exact a1 b (by rw [e0]; exact hb), fun b hb => by rw [zfe (by omega)]; exact a2 b (by rw [e0]; exact hb), fun b hb => a3 b (by rw [e0]; exact hb)⟩
      rw [ez_198]
      simp only [zm151 (d := 61) h.1 ⟨p0, p1⟩ hz, zbs, zBi, decide_eq_true q, cond_true, h79, h80, c1, zm180 (d := 61) (z := aSeat x.1 p) (σ := τ) (show p < 8 by omega)]
      generalize hτ2 : zwI τ 0 61 (54 + 3 * p) (iI (aSeat x.1 p + 1)) = τ2 at hS3 hF
      have f : zFr WM σ τ2 := by
        subst hτ2
        exact zFr_tt (zFr_tt (zFr_w (by omega)) c2) (zFr_w (by omega))
      refine ⟨τ2, ?_, f, hS3⟩
      have key : ∀ i, i ≤ (x.1 0).toNat → ∀ d1 d2 : Option zV, zrun (zev 63) zT_198 37 [some (.inr (.inr (0, 60))), d1, d2, some (.inl (iI (aBst x.1 r i))), some (.inl (iI i))] [] τ2 = some (if aBst x.1 r ((x.1 0).toNat) < 0 then -3 else iI (aBst x.1 r ((x.1 0).toNat)), 0, τ2) := by
        intro i hi
        refine zloop (n := (x.1 0).toNat) (P := fun i => ∀ d1 d2 : Option zV, zrun (zev 63) zT_198 37 [some (.inr (.inr (0, 60))), d1, d2, some (.inl (iI (aBst x.1 r i))), some (.inl (iI i))] [] τ2 = some (if aBst x.1 r ((x.1 0).toNat) < 0 then -3 else iI (aBst x.1 r ((x.1 0).toNat)), 0, τ2)) ?_ ?_ hi
        · intro d1 d2
          have hl := aBst_r (S := x.1) (r := r) ((x.1 0).toNat)
          rw [ez_198_37, hS3 0 (by decide), if_neg (by rw [iI_lt (by omega) (by omega)]; omega)]
          simp only [iI_lt0 (show zrn (aBst x.1 r ((x.1 0).toNat)) by omega)]
          by_cases q2 : aBst x.1 r ((x.1 0).toNat) < 0
          · rw [if_pos q2, if_pos q2]
          · rw [if_neg q2, if_neg q2]
        · intro i hi ih d1 d2
          have w3 := wb.2.2 i hi
          have hl := aBst_r (S := x.1) (r := r) i
          have e : aBst x.1 r (i + 1) = if aBrk x.1 i = false ∧ (aBst x.1 r i < 0 ∨ r (aBst x.1 r i).toNat < r i) then (i : Int) else aBst x.1 r i := rfl
          have h96 : ∀ b, b < (x.1 0).toNat → zev 63 196 [.inr (.inr (0, 60)), .inl (iI b)] τ2 = some (iI (r b), 0, τ2) := fun b hb => by
            rw [← hr]
            exact zm196 (d := 59) hS3 wb hF hf hb
          have r1 := hrr i hi
          rw [ez_198_37, hS3 0 (by decide), if_pos (by rw [iI_lt (by omega) (by omega)]; omega)]
          simp only [zm157 (d := 60) hS3 (show i < 9 by omega) (show 0 ≤ x.1 (11 + 5 * i) ∧ x.1 (11 + 5 * i) ≤ 1 by omega), zbs, zBi, hki1, h96 i hi]
          cases hh : aBrk x.1 i
          · rw [cond_false]
            by_cases q2 : aBst x.1 r i < 0
            · rw [if_pos (⟨hh, Or.inl q2⟩ : aBrk x.1 i = false ∧ _)] at e
              rw [if_pos (by rw [iI_lt0 (by omega)]; exact q2)]
              have := ih none none
              rw [e] at this
              exact this
            · rw [if_neg (by rw [iI_lt0 (by omega)]; exact q2)]
              obtain ⟨m, hm⟩ := zint (show 0 ≤ aBst x.1 r i by omega)
              rw [hm] at hl e ⊢
              rw [Int.toNat_natCast] at e
              have r2 := hrr m (by omega)
              simp only [h96 m (by omega), zbs, iI_lt (show zrn (r m) by omega) (show zrn (r i) by omega)]
              by_cases q3 : r m < r i
              · rw [if_pos (⟨hh, Or.inr q3⟩ : aBrk x.1 i = false ∧ _)] at e
                rw [if_pos q3]
                have := ih none none
                rw [e] at this
                exact this
              · rw [if_neg (fun z => z.2.elim (fun y => by omega) q3)] at e
                rw [if_neg q3]
                have := ih none none
                rw [e] at this
                exact this
          · rw [cond_true]
            rw [if_neg (fun z => by rw [hh] at z; cases z.1)] at e
            have := ih none none
            rw [e] at this
            exact this
      exact key 0 (by omega) _ _
