theorem t7x {t : zXt} {d n c0 o : Nat} {L R : List Int} {W : Int} (hW : zrn W) (h10 : W ≠ -10) (h11 : W ≠ -11) (h13 : W = -13 → o = 0) (hd : W = -16 ∨ W = -17 ∨ W = -18 → o ≠ 0) (ho : o ≤ 3) : cNo t d 7 n c0 o L R W := by
  intro σ ⟨h1, h2, h3, h4⟩
  have em : ∀ c : Int, zrn c → (iI W = iI c) = (W = c) := fun c hc => iIm hW hc
  have e10 : (iI W = -10) = (W = -10) := by rw [show (-10 : Int32) = iI (-10) by decide]; exact em (-10) (by decide)
  have e11 : (iI W = -11) = (W = -11) := by rw [show (-11 : Int32) = iI (-11) by decide]; exact em (-11) (by decide)
  have e13 : (iI W = -13) = (W = -13) := by rw [show (-13 : Int32) = iI (-13) by decide]; exact em (-13) (by decide)
  have e16 : (iI W = -16) = (W = -16) := by rw [show (-16 : Int32) = iI (-16) by decide]; exact em (-16) (by decide)
  have e17 : (iI W = -17) = (W = -17) := by rw [show (-17 : Int32) = iI (-17) by decide]; exact em (-17) (by decide)
  have e18 : (iI W = -18) = (W = -18) := by rw [show (-18 : Int32) = iI (-18) by decide]; exact em (-18) (by decide)
  have e0 : (iI (o : Int) = 0) = ((o : Int) = 0) := iI_0 (by omega)
  have e58 : zev (d + 7) 58 [.inr (.inr (0, 33)), .inl (iI W)] σ = some (0, 0, σ) := by
    rw [ez_58, h4.1]
    simp only [e10, e11, e13, e0]
    rw [if_neg h10, if_neg h11]
    by_cases q : W = -13
    · rw [if_pos q, if_pos (by have := h13 q; omega), zgd_t (by decide)]
    · rw [if_neg q, zgd_t (by decide)]
  have e52 : o = 0 → zev (d + 7) 52 [.inr (.inr (0, 33)), .inl (iI W)] σ = some (0, 0, σ) := fun q => by
    rw [ez_52]
    simp only [e16, e17, e18]
    rw [if_neg (fun z => hd (Or.inl z) q), if_neg (fun z => hd (Or.inr (Or.inl z)) q), if_neg (fun z => hd (Or.inr (Or.inr z)) q), zgd_t (by decide)]
  rw [c49_7 h2, e58]
  simp only [zbs, h4.1, e0]
  rw [if_pos trivial]
  by_cases q : o = 0
  · rw [if_pos (by omega), e52 q]
    simp only [zbs]
    rw [if_pos trivial, zgd_t (by decide)]
  · rw [if_neg (by omega), zgd_t (by decide)]
abbrev Wdd (c0 : Nat) : Nat → Nat → Nat → Prop := fun g k i => (g = 4 ∧ ((k = 12 ∧ c0 ≤ i) ∨ k = 9)) ∨ (g = 0 ∧ (k = 33 ∨ k = 34))
theorem zc52 {t : zXt} {d u n c0 o : Nat} {L R : List Int} {W : Int} {σ : zM} (h : cAt t u n c0 o L R σ) (hW : W = -16 ∨ W = -17 ∨ W = -18) (hn : n < 8) (hu : ∀ u, u ∈ R → zrn u) (hk : c0 + L.length + R.length ≤ 200) : ∃ τ, zev (d + 7) 52 [.inr (.inr (0, 33)), .inl (iI W)] σ = some (1, 0, τ) ∧ zFr (Wdd c0) σ τ ∧ cAt t (if W = -18 then 3 else 2) n c0 o (L ++ pW (-11) R) (dW (-11) R) τ ∧ τ.1 4 9 n = iI W ∧ ∀ i, i ≠ n → τ.1 4 9 i = σ.1 4 9 i := by
  obtain ⟨h1, h2, h3, h4⟩ := h
  have em : ∀ c : Int, zrn c → (iI W = iI c) = (W = c) := fun c hc => iIm (by omega) hc
  have e16 : (iI W = -16) = (W = -16) := by rw [show (-16 : Int32) = iI (-16) by decide]; exact em (-16) (by decide)
  have e17 : (iI W = -17) = (W = -17) := by rw [show (-17 : Int32) = iI (-17) by decide]; exact em (-17) (by decide)
  have e18 : (iI W = -18) = (W = -18) := by rw [show (-18 : Int32) = iI (-18) by decide]; exact em (-18) (by decide)
  obtain ⟨τ, g1, g2, g3⟩ := zc61e (d := d + 4) (j := -11) (by decide) h4 hu hk
  have g1 : zev (d + 6) 61 [.inr (.inr (0, 33)), .inl (-11)] σ = some (0, 0, τ) := g1
  have hn2 : τ.1 4 7 0 = iI n := (g2.1 _ _ _ (by omega)).trans h3
  have fr : ∀ v : Int32, zFr (Wdd c0) σ (zwI (zwI τ 4 9 n (iI W)) 0 33 1 v) := fun v => zFr_tt (zFr_tt (zFr_i g2 fun _ _ _ q => by omega) (zFr_w (by omega))) (zFr_w (by omega))
  have c9 : cMm c0 o (L ++ pW (-11) R) (dW (-11) R) (zwI τ 4 9 n (iI W)) := by
    obtain ⟨a1, a2, a3, a4, a5⟩ := g3
    exact ⟨by rw [zfe (by omega)]; exact a1, by rw [zfe (by omega)]; exact a2, fun j hj => by rw [zfe (by omega)]; exact a3 j hj, by rw [zfe (by omega)]; exact a4, wMem_f a5 (fun j _ => by rw [zfe (by omega)])⟩
  have e20 : zrun (zev (d + 6)) zT_52 20 [some (.inr (.inr (0, 33))), some (.inl (iI W))] [] σ = some (1, 0, zwI (zwI τ 4 9 n (iI W)) 0 33 1 (iI ((if W = -18 then 3 else 2 : Nat) : Int))) := by
    rw [ez_52_20, g1]
    simp only [zbs, hn2, zgd_t (iI_ink (z := n) (k := n) rfl hn (by decide)), iI_Nn (show n ≤ 2147483647 by omega), e18]
    by_cases q : W = -18
    · rw [if_pos q, if_pos q, zgd_t (by decide)]; rfl
    · rw [if_neg q, if_neg q, zgd_t (by decide)]; rfl
  refine ⟨_, ?_, fr _, ⟨cTp_f h1 ((fr _).1 _ _ _ (by omega)) (zFr_f (fr _) (fun i => by omega)), zfs, ((fr _).1 _ _ _ (by omega)).trans h3, cMm_u c9 (Or.inl rfl)⟩, by rw [zfe (by omega), zfs], fun i hi => by rw [zfe (by omega), zfe (by omega)]; exact g2.1 _ _ _ (by omega)⟩
  · rw [ez_52]
    simp only [e16, e17, e18, e20]
    rcases hW with q | q | q
    · rw [if_pos q]
    · rw [if_neg (by omega), if_pos q]
    · rw [if_neg (by omega), if_neg (by omega), if_pos q]
