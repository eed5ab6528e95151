def zwp (X : zR) (P : Int32 → Int64 → zM → Prop) : Prop := ∃ a b σ, X = some (a, b, σ) ∧ P a b σ
theorem zwp_some {a b σ} {P : Int32 → Int64 → zM → Prop} (h : P a b σ) : zwp (some (a, b, σ)) P := ⟨a, b, σ, rfl, h⟩
theorem zwp_bind {X : zR} {f : Int32 × Int64 × zM → zR} {P : Int32 → Int64 → zM → Prop} (h : zwp X (fun a b σ => zwp (f (a, b, σ)) P)) : zwp (X.bind f) P := by
  obtain ⟨a, b, σ, rfl, h⟩ := h
  exact h
theorem zwp_gd {b : Bool} {x : zR} {P : Int32 → Int64 → zM → Prop} (hb : b = true) (h : zwp x P) : zwp (zgd b x) P := by
  rw [zgd_t hb]; exact h
theorem zwp_ite {c : Prop} {hc : Decidable c} {x y : zR} {P : Int32 → Int64 → zM → Prop} (h1 : c → zwp x P) (h2 : ¬ c → zwp y P) : zwp (@ite _ c hc x y) P := by
  by_cases h : c
  · rw [if_pos h]; exact h1 h
  · rw [if_neg h]; exact h2 h
theorem zwp_mono {X : zR} {P P' : Int32 → Int64 → zM → Prop} (h : zwp X P) (hi : ∀ a b σ, P a b σ → P' a b σ) : zwp X P' := by
  obtain ⟨a, b, σ, e, h⟩ := h
  exact ⟨a, b, σ, e, hi _ _ _ h⟩
theorem zwp_eq {X Y : zR} {P : Int32 → Int64 → zM → Prop} (e : X = Y) (h : zwp Y P) : zwp X P := e ▸ h
theorem zrd (σ : zM) (g k i : Nat) (v : Int32) (g' k' j : Nat) : (zwI σ g k i v).1 g' k' j = if g' = g ∧ k' = k ∧ j = i then v else σ.1 g' k' j := rfl
theorem zrd2 (σ : zM) (g k i : Nat) (v : Int32) (g' k' j : Nat) : (zwI σ g k i v).2 g' k' j = σ.2 g' k' j := rfl
theorem zrdL (σ : zM) (g k i : Nat) (v : Int64) (g' k' j : Nat) : (zwL σ g k i v).2 g' k' j = if g' = g ∧ k' = k ∧ j = i then v else σ.2 g' k' j := rfl
theorem zrdL1 (σ : zM) (g k i : Nat) (v : Int64) (g' k' j : Nat) : (zwL σ g k i v).1 g' k' j = σ.1 g' k' j := rfl
theorem z01_0 : z01 0 = true := by decide
theorem z01_1 : z01 1 = true := by decide
theorem zone {C : zC} {L : Nat} {xs : Nat → Int32} {σ : zM} (hL : L ≤ 5) (hσ : σ.1 0 91 0 = nI L) (h : L < 5 ∨ zwp (zrun C zT_281 18 zl0 [] σ) (fun a _ _ => a = 1)) : zwp (zrun C zT_281 18 zl0 [] σ) (fun a _ _ => a = 1) := by
  rcases h with h | h
  · unfold zl0
    rw [ezL_18]
    refine zwp_ite (fun _ => zwp_gd (by decide) (zwp_some rfl)) (fun hn => absurd ?_ hn)
    rw [hσ]
    have : L = 0 ∨ L = 1 ∨ L = 2 ∨ L = 3 ∨ L = 4 := by omega
    rcases this with rfl | rfl | rfl | rfl | rfl <;> decide
  · exact h
