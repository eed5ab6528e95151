theorem t7d {t : zXt} {d n c0 : Nat} {L R : List Int} {W : Int} {σ : zM} (h : cAt t 7 n c0 0 L R σ) (hW : W = -16 ∨ W = -17 ∨ W = -18) (hn : n < 8) (hu : ∀ u, u ∈ R → zrn u) (hk : c0 + L.length + R.length ≤ 200) : ∃ τ, zev (d + 8) 49 [.inr (.inr (0, 33)), .inl (iI W)] σ = some (1, 0, τ) ∧ zFr (Wdd c0) σ τ ∧ cAt t (if W = -18 then 3 else 2) n c0 0 (L ++ pW (-11) R) (dW (-11) R) τ ∧ τ.1 4 9 n = iI W ∧ ∀ i, i ≠ n → τ.1 4 9 i = σ.1 4 9 i := by
  have em : ∀ c : Int, zrn c → (iI W = iI c) = (W = c) := fun c hc => iIm (by omega) hc
  have e10 : (iI W = -10) = (W = -10) := by rw [show (-10 : Int32) = iI (-10) by decide]; exact em (-10) (by decide)
  have e11 : (iI W = -11) = (W = -11) := by rw [show (-11 : Int32) = iI (-11) by decide]; exact em (-11) (by decide)
  have e13 : (iI W = -13) = (W = -13) := by rw [show (-13 : Int32) = iI (-13) by decide]; exact em (-13) (by decide)
  obtain ⟨τ, g1, g2⟩ := zc52 (d := d) h hW hn hu hk
  have e58 : zev (d + 7) 58 [.inr (.inr (0, 33)), .inl (iI W)] σ = some (0, 0, σ) := by
    rw [ez_58]
    simp only [e10, e11, e13]
    rw [if_neg (by omega), if_neg (by omega), if_neg (by omega), zgd_t (by decide)]
  have h0 : σ.1 0 33 3 = 0 := h.2.2.2.1
  refine ⟨τ, ?_, g2⟩
  rw [c49_7 h.2.1, e58]
  simp only [zbs, h0, g1]
  rw [if_pos trivial, if_pos trivial, if_neg (by decide), zgd_t (by decide)]
