def aCk (T : zS) : Bool := !decide (zcr (aCr T (aSp T)) ((T 0).toNat) = 0)
theorem zup_up {S : zS} {i : Nat} {v v' : Int} : zup (zup S i v) i v' = zup S i v' := funext fun j => by
  unfold zup
  split <;> rfl
theorem zup_id {S : zS} {i : Nat} {v : Int} : zup (zup S i v) i (S i) = S := by rw [zup_up, zup_same rfl]
theorem mS_up {S : zS} {σ : zM} {i : Nat} {v : Int} (h : mS 61 S σ) : mS 61 (zup S i v) (zwI σ 0 61 i (iI v)) := mS_w h
theorem zCk {T : zS} {x y : zR} : (if zcr (aCr T (aSp T)) ((T 0).toNat) = 0 then x else y) = bif aCk T then y else x := by
  unfold aCk
  by_cases q : zcr (aCr T (aSp T)) ((T 0).toNat) = 0
  · rw [if_pos q, decide_eq_true q]; rfl
  · rw [if_neg q, decide_eq_false q]; rfl
theorem zm171 {d : Nat} {S : zS} {σ : zM} (hS : mS 61 S σ) (wa : wA S) (hh : mR 65 S (aHold S) σ) : ∃ τ, zev (d + 8) 171 [.inr (.inr (0, 60))] σ = some (zB (!aCk S), 0, τ) ∧ zFr (Wk 0 66) σ τ := by
  obtain ⟨τ, c1, c2⟩ := zm170 (d := d) hS wa hh
  rw [ez_171]
  simp only [c1, zbs, zCk]
  refine ⟨τ, ?_, c2⟩
  cases aCk S
  · exact zgd_t rfl
  · exact zgd_t rfl
theorem zc27k {d g : Nat} {S : zS} {σ : zM} (hA : cA g S σ) (wa : wA S) : ∃ τ, zev (d + 5) 27 [.inr (.inr (g, 0))] σ = some (0, 0, τ) ∧ zFr (Ws g) σ τ ∧ cA g S τ ∧ cS g S (aSp S) τ ∧ zev (d + 5) 29 [.inr (.inr (g, 0))] τ = some (zcr (aCr S (aSp S)) ((S 0).toNat), 0, τ) := by
  obtain ⟨τ, c1, c2, c3⟩ := zc27 (d := d) hA wa
  have hA' := cA_s hA c2
  exact ⟨τ, c1, c2, hA', c3, zc29 (d := d + 2) hA'.1 hA'.2.1 wa.1 c3 (aSp_r wa)⟩
def aLe (p : Nat → Bool) : Nat → Nat → Int
  | 0, _ => -3
  | n + 1, v => bif p v then (v : Int) else aLe p n (v + 1)
theorem zc106 {S : zS} (wa : wA S) : ∀ (n k : Nat) (T : zS) (σ : zM), k + n = 10 → (∀ v, zup T 4 v = zup S 4 v) → wA T → cA 1 T σ → ∃ τ, zrun (zev 63) zT_106 13 [some (.inr (.inr (0, 30))), some (.inl (iI k))] [] σ = some (iI (aLe (fun v => !aCk (zup S 4 v)) n k), 0, τ) ∧ zFr (WG 1) σ τ
  | 0, k, T, σ, hk, hT, wt, hA => by
    rw [ez_106_13, if_pos (by show iI 9 < iI k; rw [iI_lt (by omega) (by omega)]; omega)]
    exact ⟨σ, rfl, zFr_r σ⟩
  | n + 1, k, T, σ, hk, hT, wt, hA => by
    have h2 := cA_wt (i := 4) (v := k) hA wt (Or.inl rfl)
    rw [hT] at h2
    have w2 := wA_wt (i := 4) (v := k) wa (Or.inl rfl) (by omega)
    obtain ⟨τ, c1, c2, c3, c4, c5⟩ := zc27k (d := 58) h2 w2
    have e : aLe (fun v => !aCk (zup S 4 v)) (n + 1) k = bif !aCk (zup S 4 k) then (k : Int) else aLe (fun v => !aCk (zup S 4 v)) n (k + 1) := rfl
    have f : zFr (WG 1) σ τ := zFr_tt (zFr_w ⟨rfl, by omega⟩) (zFr_i c2 fun _ _ _ q => ⟨q.1, by omega⟩)
    rw [ez_106_13, if_neg (by show ¬ iI 9 < iI k; rw [iI_lt (by omega) (by omega)]; omega)]
    simp only [c1, c5, zbs, zCk, hki1, e]
    cases aCk (zup S 4 k)
    · exact ⟨τ, rfl, f⟩
    · obtain ⟨τ2, g1, g2⟩ := zc106 wa n (k + 1) (zup S 4 k) τ (by omega) (fun v => zup_up) w2 c3
      exact ⟨τ2, g1, zFr_tt f g2⟩
theorem zc109 {S : zS} (wa : wA S) : ∀ (n k : Nat) (T : zS) (σ : zM), k + n = 10 → (∀ v, zup T 5 v = zup S 5 v) → wA T → cA 1 T σ → ∃ τ, zrun (zev 62) zT_109 15 [some (.inr (.inr (0, 30))), some (.inl (zcr (fun v => aCk (zup S 5 v)) k)), some (.inl (iI k))] [] σ = some (zcr (fun v => aCk (zup S 5 v)) 10, 0, τ) ∧ zFr (WG 1) σ τ
  | 0, k, T, σ, hk, hT, wt, hA => by
    have ek : k = 10 := by omega
    subst ek
    rw [ez_109_15, if_pos (by decide)]
    exact ⟨σ, rfl, zFr_r σ⟩
  | n + 1, k, T, σ, hk, hT, wt, hA => by
    have h2 := cA_wt (i := 5) (v := k) hA wt (Or.inr rfl)
    rw [hT] at h2
    have w2 := wA_wt (i := 5) (v := k) wa (Or.inr rfl) (by omega)
    obtain ⟨τ, c1, c2, c3, c4, c5⟩ := zc27k (d := 57) h2 w2
    have e : zcr (fun v => aCk (zup S 5 v)) (k + 1) = bif aCk (zup S 5 k) then zcr (fun v => aCk (zup S 5 v)) k ||| (1 <<< (iI k &&& 31)) else zcr (fun v => aCk (zup S 5 v)) k := rfl
    have f : zFr (WG 1) σ τ := zFr_tt (zFr_w ⟨rfl, by omega⟩) (zFr_i c2 fun _ _ _ q => ⟨q.1, by omega⟩)
    obtain ⟨τ2, g1, g2⟩ := zc109 wa n (k + 1) (zup S 5 k) τ (by omega) (fun v => zup_up) w2 c3
    rw [ez_109_15, if_neg (by show ¬ iI 9 < iI k; rw [iI_lt (by omega) (by omega)]; omega)]
    simp only [c1, c5, zbs, zCk, hki1]
    rw [e] at g1
    cases hx : aCk (zup S 5 k)
    · rw [hx, cond_false] at g1
      exact ⟨τ2, g1, zFr_tt f g2⟩
    · rw [hx, cond_true] at g1
      exact ⟨τ2, g1, zFr_tt f g2⟩
theorem zc105 {p : Nat → Bool} {σ : zM} : ∀ (n k : Nat) (d0 : Option zV), k + n = 10 → zrun (zev 63) zT_105 7 [d0, some (.inl (zcr p 10)), some (.inl (iI k))] [] σ = some (iI (aLe p n k), 0, σ)
  | 0, k, d0, hk => by
    rw [ez_105_7, if_pos (by show iI 9 < iI k; rw [iI_lt (by omega) (by omega)]; omega)]
    rfl
  | n + 1, k, d0, hk => by
    have e : aLe p (n + 1) k = bif p k then (k : Int) else aLe p n (k + 1) := rfl
    rw [ez_105_7, if_neg (by show ¬ iI 9 < iI k; rw [iI_lt (by omega) (by omega)]; omega), zc145 (d := 62) (show k < 32 by omega), zcr_b 10 (by decide) k (by omega), decide_eq_true (show k < 10 by omega), Bool.true_and, e]
    simp only [zbs, zBi, hki1]
    cases p k
    · exact zc105 n (k + 1) none (by omega)
    · rfl
theorem zm201 {S : zS} (wa : wA S) (w : Nat) (c : Bool) (hw : w ≤ 1) : ∀ (n k : Nat) (T : zS) (σ : zM), k + n = 10 → (∀ v, zup T (4 + w) v = zup S (4 + w) v) → mS 61 T σ → ∃ τ, zrun (zev 62) zT_201 16 [some (.inr (.inr (0, 60))), some (.inl (iI w)), some (.inl (zB c)), some (.inl (iI (S (4 + w)))), some (.inl (iI (-3))), some (.inl (iI k))] [] σ = some (iI (aLe (fun v => aCk (zup S (4 + w) v) != c) n k), 0, τ) ∧ zFr WM σ τ ∧ mS 61 S τ := by
  have i0 : (4 : Int32) + iI w = iI ((4 + w : Nat) : Int) := by
    show iI 4 + iI w = _
    rw [iI_add]; congr 1 <;> omega
  have g4 : zgd (zin (iI ((4 + w : Nat) : Int)) 320) = fun x => x := funext fun x => zgd_t (iI_ink (k := 4 + w) rfl (by omega) (by decide))
  have gN : Int32.toNatClampNeg (iI ((4 + w : Nat) : Int)) = 4 + w := iI_Nn (by omega)
  intro n
  induction n with
  | zero =>
    intro k T σ hk hT hS
    have hS2 := mS_up (i := 4 + w) (v := S (4 + w)) hS
    rw [hT, zup_same rfl] at hS2
    rw [ez_201_16, if_neg (by show ¬ iI k < iI 10; rw [iI_lt (by omega) (by omega)]; omega), i0, g4, gN]
    exact ⟨_, rfl, zFr_w (by omega), hS2⟩
  | succ n ih =>
    intro k T σ hk hT hS
    have hS2 := mS_up (i := 4 + w) (v := k) hS
    rw [hT] at hS2
    have w2 := wA_wt (i := 4 + w) (v := k) wa (by omega) (by omega)
    obtain ⟨τ, c1, c2, c3, c4⟩ := zm166c (d := 56) hS2 w2
    obtain ⟨τ1, b1, b2⟩ := zm171 (d := 54) c3 w2 c4
    have hS3 := mS_g c3 b2 (fun i => by omega)
    have f : zFr WM σ τ1 := zFr_tt (zFr_tt (zFr_w (by omega)) c2) (zFr_i b2 fun _ _ _ q => by omega)
    have e : aLe (fun v => aCk (zup S (4 + w) v) != c) (n + 1) k = bif (aCk (zup S (4 + w) k) != c) then (k : Int) else aLe (fun v => aCk (zup S (4 + w) v) != c) n (k + 1) := rfl
    rw [ez_201_16, if_pos (by show iI k < iI 10; rw [iI_lt (by omega) (by omega)]; omega), if_pos (by decide), i0, g4, gN]
    simp only [c1, b1, zbs, hki1]
    have hx : (zB (!aCk (zup S (4 + w) k)) = zB c) = ((aCk (zup S (4 + w) k) != c) = true) := by cases aCk (zup S (4 + w) k) <;> cases c <;> decide
    simp only [hx]
    cases hq : (aCk (zup S (4 + w) k) != c)
    · rw [hq, cond_false] at e
      rw [if_neg (by decide), e]
      obtain ⟨τ2, g1, g2, g3⟩ := ih (k + 1) (zup S (4 + w) k) τ1 (by omega) (fun v => zup_up) hS3
      exact ⟨τ2, g1, zFr_tt f g2, g3⟩
    · rw [hq, cond_true] at e
      rw [if_pos rfl, e, ez_201_16]
      have hS4 := mS_up (i := 4 + w) (v := S (4 + w)) hS3
      rw [zup_id] at hS4
      refine ⟨_, ?_, zFr_tt f (zFr_w (by omega)), hS4⟩
      rw [if_neg (show ¬ iI k < 0 by rw [iI_lt0 (by omega)]; omega), i0, g4, gN]
      split <;> rfl
theorem zx_105 {x : zXx} (w : WX x) : zCall 105 202 [] x := by
  refine zCq (iI (aLe (fun v => aCk (zup x.1 5 v)) 10 0)) w (fun σ h => ?_) (fun σ h => ?_)
  · obtain ⟨τ, c1, c2, c3⟩ := zc25 (d := 57) (g := 1) (by decide) w.1 h.1
    obtain ⟨τ1, b1, b2⟩ := zc109 w.1 10 0 x.1 τ rfl (fun v => rfl) w.1 c3
    have b1 : zrun (zev 62) zT_109 15 [some (.inr (.inr (0, 30))), some (.inl 0), some (.inl 0)] [] τ = _ := b1
    rw [ez_105]
    have e : zev 63 109 [.inr (.inr (0, 30))] σ = some (zcr (fun v => aCk (zup x.1 5 v)) 10, 0, τ1) := by
      rw [ez_109]
      simp only [c1, zbs]
      exact b1
    simp only [e, zbs]
    exact ⟨τ1, zc105 10 0 _ rfl, zFr_tt (zFr_i c2 fun _ _ _ q => by omega) (zFr_i b2 fun _ _ _ q => by omega)⟩
  · obtain ⟨τ, c1, c2, c3⟩ := zm201 w.1 1 false (by decide) 10 0 x.1 σ rfl (fun v => rfl) h.1
    have e0 : aLe (fun v => aCk (zup x.1 (4 + 1) v) != false) 10 0 = aLe (fun v => aCk (zup x.1 5 v)) 10 0 := by
      congr 1
      funext v
      exact Bool.bne_false _
    rw [e0] at c1
    have e : zev 63 201 [.inr (.inr (0, 60)), .inl 1, .inl 0] σ = some (iI (aLe (fun v => aCk (zup x.1 5 v)) 10 0), 0, τ) := by
      rw [ez_201]
      show zgd (zin 5 320) (zrun (zev 62) zT_201 16 [some (.inr (.inr (0, 60))), some (.inl 1), some (.inl 0), some (.inl (σ.1 0 61 5)), some (.inl (-3)), some (.inl 0)] [] σ) = _
      rw [zgd_t (by decide), h.1 5 (by decide)]
      exact c1
    rw [ez_202]
    simp only [e, zbs]
    exact ⟨τ, rfl, c2, c3⟩
theorem zx_106 {x : zXx} (w : WX x) : zCall 106 203 [] x := by
  refine zCq (iI (aLe (fun v => !aCk (zup x.1 4 v)) 10 0)) w (fun σ h => ?_) (fun σ h => ?_)
  · obtain ⟨τ, c1, c2, c3⟩ := zc25 (d := 58) (g := 1) (by decide) w.1 h.1
    obtain ⟨τ1, b1, b2⟩ := zc106 w.1 10 0 x.1 τ rfl (fun v => rfl) w.1 c3
    have b1 : zrun (zev 63) zT_106 13 [some (.inr (.inr (0, 30))), some (.inl 0)] [] τ = _ := b1
    rw [ez_106]
    simp only [c1, zbs]
    exact ⟨τ1, b1, zFr_tt (zFr_i c2 fun _ _ _ q => by omega) (zFr_i b2 fun _ _ _ q => by omega)⟩
  · obtain ⟨τ, c1, c2, c3⟩ := zm201 w.1 0 true (by decide) 10 0 x.1 σ rfl (fun v => rfl) h.1
    have e0 : aLe (fun v => aCk (zup x.1 (4 + 0) v) != true) 10 0 = aLe (fun v => !aCk (zup x.1 4 v)) 10 0 := by
      congr 1
      funext v
      exact Bool.bne_true _
    rw [e0] at c1
    have e : zev 63 201 [.inr (.inr (0, 60)), .inl 0, .inl 1] σ = some (iI (aLe (fun v => !aCk (zup x.1 4 v)) 10 0), 0, τ) := by
      rw [ez_201]
      show zgd (zin 4 320) (zrun (zev 62) zT_201 16 [some (.inr (.inr (0, 60))), some (.inl 0), some (.inl 1), some (.inl (σ.1 0 61 4)), some (.inl (-3)), some (.inl 0)] [] σ) = _
      rw [zgd_t (by decide), h.1 4 (by decide)]
      exact c1
    rw [ez_203]
    simp only [e, zbs]
    exact ⟨τ, rfl, c2, c3⟩
