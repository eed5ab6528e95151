theorem t5s {t : zXt} {d n c0 o : Nat} {L R : List Int} {W : Int} {σ : zM} (h : cAt t 5 n c0 o L R σ) (hW : -8 ≤ W ∧ W ≤ -6) : ∃ τ, zev (d + 8) 49 [.inr (.inr (0, 33)), .inl (iI W)] σ = some (1, 0, τ) ∧ zFr (Wcd c0) σ τ ∧ cAt t 6 n c0 o L R τ ∧ τ.1 0 33 2 = iI W := by
  obtain ⟨h1, h2, h3, h4⟩ := h
  have e141 : zev (d + 6) 141 [.inl (iI W), .inl (-8), .inl (-6)] σ = some (zB (decide (-8 ≤ W ∧ W ≤ -6)), 0, σ) := zc141 (l := -8) (h := -6) (by omega) (by decide) (by decide)
  have fr : zFr (Wcd c0) σ (zwI (zwI σ 0 33 2 (iI W)) 0 33 1 6) := zFr_tt (zFr_w (by omega)) (zFr_w (by omega))
  have e56 : zev (d + 7) 56 [.inr (.inr (0, 33)), .inl (iI W)] σ = some (1, 0, zwI (zwI σ 0 33 2 (iI W)) 0 33 1 6) := by
    rw [ez_56]
    simp only [e141, zbs, zBi, decide_eq_true hW, cond_true]
    rw [zgd_t (by decide)]
  rw [c49_5 h2, e56]
  simp only [zbs]
  rw [zgd_t (by decide)]
  exact ⟨_, rfl, fr, ⟨cTp_d h1 fr, by rw [zfs]; rfl, (fr.1 _ _ _ (by omega)).trans h3, cMm_u (cMm_u h4 (Or.inr rfl)) (Or.inl rfl)⟩, by rw [zfe (by omega), zfs]⟩
theorem t5x {t : zXt} {d n c0 o : Nat} {L R : List Int} {W : Int} (hW : zrn W) (h : ¬ (-8 ≤ W ∧ W ≤ -6)) : cNo t d 5 n c0 o L R W := by
  intro σ ⟨h1, h2, h3, h4⟩
  have e141 : zev (d + 6) 141 [.inl (iI W), .inl (-8), .inl (-6)] σ = some (zB (decide (-8 ≤ W ∧ W ≤ -6)), 0, σ) := zc141 (l := -8) (h := -6) (by omega) (by decide) (by decide)
  have e56 : zev (d + 7) 56 [.inr (.inr (0, 33)), .inl (iI W)] σ = some (0, 0, σ) := by
    rw [ez_56]
    simp only [e141, zbs, zBi, decide_eq_false h, cond_false]
    rw [zgd_t (by decide)]
  rw [c49_5 h2, e56]
  simp only [zbs]
  rw [zgd_t (by decide)]
theorem t6v {t : zXt} {d n c0 o : Nat} {L R : List Int} {W g : Int} {σ : zM} (h : cAt t 6 n c0 o L R σ) (hg : σ.1 0 33 2 = iI g) (hW : -5 ≤ W ∧ W ≤ 9999) (hk : c0 + L.length + 1 < 200) : ∃ τ, zev (d + 8) 49 [.inr (.inr (0, 33)), .inl (iI W)] σ = some (1, 0, τ) ∧ zFr (Wcd c0) σ τ ∧ cAt t 7 n c0 o (L ++ [W] ++ [g]) R τ := by
  obtain ⟨h1, h2, h3, h4⟩ := h
  obtain ⟨τ, g1, g2, g3⟩ := zc62 (d := d + 5) (p := W) h4 (by omega)
  obtain ⟨τ2, f1, f2, f3⟩ := zc62 (d := d + 5) (p := g) g3 (by rw [List.length_append]; show c0 + (L.length + 1) < 200; omega)
  have hg2 : τ.1 0 33 2 = iI g := (g2.1 _ _ _ (by omega)).trans hg
  have fr : zFr (Wcd c0) σ (zwI τ2 0 33 1 7) := zFr_tt (zFr_tt (zFr_i g2 fun _ _ _ q => by omega) (zFr_i f2 fun _ _ _ q => by omega)) (zFr_w (by omega))
  have e57 : zev (d + 7) 57 [.inr (.inr (0, 33)), .inl (iI W)] σ = some (1, 0, zwI τ2 0 33 1 7) := by
    rw [ez_57]
    simp only [zc59 (d := d + 5) (show zrn W by omega), zbs, zBi, decide_eq_true hW.1, cond_true, g1, hg2, f1]
    rw [zgd_t (by decide)]
  rw [c49_6 h2, e57]
  simp only [zbs]
  rw [zgd_t (by decide)]
  exact ⟨_, rfl, fr, cTp_d h1 fr, by rw [zfs]; rfl, (fr.1 _ _ _ (by omega)).trans h3, cMm_u f3 (Or.inl rfl)⟩
theorem t6x {t : zXt} {d n c0 o : Nat} {L R : List Int} {W : Int} (hW : zrn W) (h : W < -5) : cNo t d 6 n c0 o L R W := by
  intro σ ⟨h1, h2, h3, h4⟩
  have e57 : zev (d + 7) 57 [.inr (.inr (0, 33)), .inl (iI W)] σ = some (0, 0, σ) := by
    rw [ez_57]
    simp only [zc59 (d := d + 5) hW, zbs, zBi, decide_eq_false (show ¬ -5 ≤ W by omega), cond_false]
    rw [zgd_t (by decide)]
  rw [c49_6 h2, e57]
  simp only [zbs]
  rw [zgd_t (by decide)]
theorem c49_7 {d : Nat} {W : Int32} {σ : zM} (h : σ.1 0 33 1 = iI (7 : Nat)) : zev (d + 8) 49 [.inr (.inr (0, 33)), .inl W] σ = (zev (d + 7) 58 [.inr (.inr (0, 33)), .inl W] σ).bind fun x8 => if x8.1 = 0 then (if (x8.2.2.1 0 33 3) = 0 then ((zev (d + 7) 52 [.inr (.inr (0, 33)), .inl W] x8.2.2).bind fun x9 => if x9.1 = 0 then (zgd (zret 3 0) (some (0, 0, x9.2.2))) else (zgd (zret 3 1) (some (1, 0, x9.2.2)))) else (zgd (zret 3 0) (some (0, 0, x8.2.2)))) else (zgd (zret 3 1) (some (1, 0, x8.2.2))) := by
  rw [ez_49, h]
  simp only
  rw [if_neg (show ¬ iI (7 : Nat) = 0 by decide), if_neg (show ¬ iI (7 : Nat) = 1 by decide), if_neg (show ¬ iI (7 : Nat) = 2 by decide), if_neg (show ¬ iI (7 : Nat) = 3 by decide), if_neg (show ¬ iI (7 : Nat) = 4 by decide), if_neg (show ¬ iI (7 : Nat) = 5 by decide), if_neg (show ¬ iI (7 : Nat) = 6 by decide)]
theorem t7j {t : zXt} {d n c0 o : Nat} {L R : List Int} {W : Int} (hW : W = -10 ∨ W = -11) (hu : ∀ u, u ∈ R → zrn u) (hk : c0 + L.length + R.length < 200) : cTk t d 7 n c0 o L R W 4 o (L ++ pW W R) (W :: dW W R) := by
  intro σ ⟨h1, h2, h3, h4⟩
  have e10 : (iI W = -10) = (W = -10) := by rw [show (-10 : Int32) = iI (-10) by decide]; exact iIm (by omega) (by decide)
  have e11 : (iI W = -11) = (W = -11) := by rw [show (-11 : Int32) = iI (-11) by decide]; exact iIm (by omega) (by decide)
  obtain ⟨τ, g1, g2, g3⟩ := zc61e (d := d + 4) (j := W) (by omega) h4 hu (by omega)
  have pl := pW_l (j := W) R
  obtain ⟨τ2, f1, f2, f3⟩ := zc60 (d := d + 5) (p := W) g3 (by omega)
  have fr : zFr (Wcd c0) σ (zwI τ2 0 33 1 4) := zFr_tt (zFr_tt (zFr_i g2 fun _ _ _ q => by omega) (zFr_i f2 fun _ _ _ q => by omega)) (zFr_w (by omega))
  have e58 : zev (d + 7) 58 [.inr (.inr (0, 33)), .inl (iI W)] σ = some (1, 0, zwI τ2 0 33 1 4) := by
    rw [ez_58]
    simp only [e10, e11, g1, zbs, f1]
    rcases hW with h | h
    · rw [if_pos h, zgd_t (by decide)]
    · rw [if_neg (by omega), if_pos h, zgd_t (by decide)]
  rw [c49_7 h2, e58]
  simp only [zbs]
  rw [if_neg (by decide), zgd_t (by decide)]
  exact ⟨_, rfl, fr, cTp_d h1 fr, by rw [zfs]; rfl, (fr.1 _ _ _ (by omega)).trans h3, cMm_u f3 (Or.inl rfl)⟩
theorem t7c {t : zXt} {d n c0 o : Nat} {L R R2 : List Int} {u : Int} (hR : dW (-11) R = u :: R2) (hu : ∀ u, u ∈ R → zrn u) (ho : o + 1 ≤ 3) (hk : c0 + L.length + R.length ≤ 200) : cTk t d 7 n c0 (o + 1) L R (-13) 7 o (L ++ pW (-11) R) R2 := by
  intro σ ⟨h1, h2, h3, h4⟩
  obtain ⟨τ, g1, g2, g3⟩ := zc61e (d := d + 4) (j := -11) (by decide) h4 hu hk
  have g1 : zev (d + 6) 61 [.inr (.inr (0, 33)), .inl (-11)] σ = some (0, 0, τ) := g1
  rw [hR] at g3
  obtain ⟨a1, a2, a3, a4, a5⟩ := g3
  have pl := pW_l (j := -11) R
  rw [hR, List.length_cons] at pl
  have a4 : τ.1 0 33 6 = iI ((R2.length + 1 : Nat) : Int) := a4
  have m1 : iI ((R2.length + 1 : Nat) : Int) - 1 = iI (R2.length : Nat) := by
    show iI _ - iI 1 = _
    rw [iI_sub]; congr 1; omega
  have e272 : zev (d + 6) 272 [.inl 0, .inl (iI (R2.length : Nat))] τ = some (iI (R2.length : Nat), 0, τ) := by
    have := zc272 (d := d + 5) (a := 0) (b := (R2.length : Nat)) (σ := τ) (by decide) (by omega)
    rw [show (if (0 : Int) < (R2.length : Nat) then ((R2.length : Nat) : Int) else 0) = (R2.length : Nat) by split <;> omega] at this
    exact this
  have eo : (zwI τ 0 33 6 (iI (R2.length : Nat))).1 0 33 3 - 1 = iI (o : Nat) := by
    rw [zfe (by omega), a1]
    show iI _ - iI 1 = _
    rw [iI_sub]; congr 1; omega
  have fr : zFr (Wcd c0) σ (zwI (zwI τ 0 33 6 (iI (R2.length : Nat))) 0 33 3 (iI (o : Nat))) := zFr_tt (zFr_tt (zFr_i g2 fun _ _ _ q => by omega) (zFr_w (by omega))) (zFr_w (by omega))
  have n0 : ¬ iI ((o + 1 : Nat) : Int) = 0 := by rw [iI_0 (by omega)]; omega
  have e58 : zev (d + 7) 58 [.inr (.inr (0, 33)), .inl (iI (-13))] σ = some (1, 0, zwI (zwI τ 0 33 6 (iI (R2.length : Nat))) 0 33 3 (iI (o : Nat))) := by
    rw [ez_58, h4.1]
    simp only [g1, zbs, a4, m1, e272, eo]
    rw [if_neg (show ¬ iI (-13) = -10 by decide), if_neg (show ¬ iI (-13) = -11 by decide), if_pos (show iI (-13) = -13 by decide), if_neg n0, zgd_t (by decide)]
  rw [c49_7 h2, e58]
  simp only [zbs]
  rw [if_neg (by decide), zgd_t (by decide)]
  refine ⟨_, rfl, fr, cTp_d h1 fr, ?_, (fr.1 _ _ _ (by omega)).trans h3, zfs, by rw [zfe (by omega), zfe (by omega)]; exact a2, fun j hj => by rw [zfe (by omega), zfe (by omega)]; exact a3 j hj, by rw [zfe (by omega), zfs], wMem_f a5.2 (fun j _ => by rw [zfe (by omega), zfe (by omega)])⟩
  rw [zfe (by omega), zfe (by omega), g2.1 _ _ _ (by omega)]
  exact h2
