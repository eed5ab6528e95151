abbrev Wcd (c0 : Nat) : Nat → Nat → Nat → Prop := fun g k i => (g = 4 ∧ k = 12 ∧ c0 ≤ i) ∨ (g = 0 ∧ (k = 33 ∨ k = 34))
def cAt (t : zXt) (u n c0 o : Nat) (L R : List Int) (σ : zM) : Prop := cTp t σ ∧ σ.1 0 33 1 = iI u ∧ σ.1 4 7 0 = iI n ∧ cMm c0 o L R σ
theorem cMm_u {c0 o : Nat} {L R : List Int} {σ : zM} {i : Nat} {v : Int32} (h : cMm c0 o L R σ) (hi : i = 1 ∨ i = 2) : cMm c0 o L R (zwI σ 0 33 i v) := by
  obtain ⟨a1, a2, a3, a4, a5⟩ := h
  exact ⟨by rw [zfe (by omega)]; exact a1, by rw [zfe (by omega)]; exact a2, fun j hj => by rw [zfe (by omega)]; exact a3 j hj, by rw [zfe (by omega)]; exact a4, wMem_f a5 (fun j _ => by rw [zfe (by omega)])⟩
theorem cMm_o {c0 o o' : Nat} {L R : List Int} {σ : zM} (h : cMm c0 o L R σ) : cMm c0 o' L R (zwI σ 0 33 3 (iI o')) := by
  obtain ⟨a1, a2, a3, a4, a5⟩ := h
  exact ⟨zfs, by rw [zfe (by omega)]; exact a2, fun j hj => by rw [zfe (by omega)]; exact a3 j hj, by rw [zfe (by omega)]; exact a4, wMem_f a5 (fun j _ => by rw [zfe (by omega)])⟩
theorem cTp_d {t : zXt} {c0 : Nat} {σ τ : zM} (h : cTp t σ) (f : zFr (Wcd c0) σ τ) : cTp t τ := cTp_f h (f.1 _ _ _ (by omega)) (zFr_f f (fun i => by omega))
def cTk (t : zXt) (d u n c0 o : Nat) (L R : List Int) (W : Int) (u2 o2 : Nat) (L2 R2 : List Int) : Prop := ∀ σ, cAt t u n c0 o L R σ → ∃ τ, zev (d + 8) 49 [.inr (.inr (0, 33)), .inl (iI W)] σ = some (1, 0, τ) ∧ zFr (Wcd c0) σ τ ∧ cAt t u2 n c0 o2 L2 R2 τ
def cNo (t : zXt) (d u n c0 o : Nat) (L R : List Int) (W : Int) : Prop := ∀ σ, cAt t u n c0 o L R σ → zev (d + 8) 49 [.inr (.inr (0, 33)), .inl (iI W)] σ = some (0, 0, σ)
theorem zc59 {d : Nat} {W : Int} {σ : zM} (hW : zrn W) : zev (d + 1) 59 [.inl (iI W)] σ = some (zB (decide (-5 ≤ W)), 0, σ) := by
  have e : (iI W < -5) = (W < -5) := by rw [show (-5 : Int32) = iI (-5) by decide]; exact iI_lt hW (by decide)
  rw [ez_59]
  simp only [e]
  by_cases q : W < -5
  · rw [if_pos q, zgd_t (by decide), decide_eq_false (by omega)]; rfl
  · rw [if_neg q, zgd_t (by decide), decide_eq_true (by omega)]; rfl
theorem c49_4 {d : Nat} {W : Int32} {σ : zM} (h : σ.1 0 33 1 = iI (4 : Nat)) : zev (d + 8) 49 [.inr (.inr (0, 33)), .inl W] σ = (zev (d + 7) 55 [.inr (.inr (0, 33)), .inl W] σ).bind fun x => zgd (zret 3 x.1) (some (x.1, 0, x.2.2)) := by
  rw [ez_49, h]
  simp only
  rw [if_neg (show ¬ iI (4 : Nat) = 0 by decide), if_neg (show ¬ iI (4 : Nat) = 1 by decide), if_neg (show ¬ iI (4 : Nat) = 2 by decide), if_neg (show ¬ iI (4 : Nat) = 3 by decide), if_pos (show iI (4 : Nat) = 4 by decide)]
theorem c49_5 {d : Nat} {W : Int32} {σ : zM} (h : σ.1 0 33 1 = iI (5 : Nat)) : zev (d + 8) 49 [.inr (.inr (0, 33)), .inl W] σ = (zev (d + 7) 56 [.inr (.inr (0, 33)), .inl W] σ).bind fun x => zgd (zret 3 x.1) (some (x.1, 0, x.2.2)) := by
  rw [ez_49, h]
  simp only
  rw [if_neg (show ¬ iI (5 : Nat) = 0 by decide), if_neg (show ¬ iI (5 : Nat) = 1 by decide), if_neg (show ¬ iI (5 : Nat) = 2 by decide), if_neg (show ¬ iI (5 : Nat) = 3 by decide), if_neg (show ¬ iI (5 : Nat) = 4 by decide), if_pos (show iI (5 : Nat) = 5 by decide)]
theorem c49_6 {d : Nat} {W : Int32} {σ : zM} (h : σ.1 0 33 1 = iI (6 : Nat)) : zev (d + 8) 49 [.inr (.inr (0, 33)), .inl W] σ = (zev (d + 7) 57 [.inr (.inr (0, 33)), .inl W] σ).bind fun x => zgd (zret 3 x.1) (some (x.1, 0, x.2.2)) := by
  rw [ez_49, h]
  simp only
  rw [if_neg (show ¬ iI (6 : Nat) = 0 by decide), if_neg (show ¬ iI (6 : Nat) = 1 by decide), if_neg (show ¬ iI (6 : Nat) = 2 by decide), if_neg (show ¬ iI (6 : Nat) = 3 by decide), if_neg (show ¬ iI (6 : Nat) = 4 by decide), if_neg (show ¬ iI (6 : Nat) = 5 by decide), if_pos (show iI (6 : Nat) = 6 by decide)]
theorem iIm {z c : Int} (hz : zrn z) (hc : zrn c) : (iI z = iI c) = (z = c) := iI_eq hz hc
theorem t4v {t : zXt} {d n c0 o : Nat} {L R : List Int} {W : Int} (hW : -5 ≤ W ∧ W ≤ 9999) (hk : c0 + L.length < 200) : cTk t d 4 n c0 o L R W 5 o (L ++ [W]) R := by
  intro σ ⟨h1, h2, h3, h4⟩
  have e9 : (iI W = -9) = (W = -9) := by rw [show (-9 : Int32) = iI (-9) by decide]; exact iIm (by omega) (by decide)
  have e12 : (iI W = -12) = (W = -12) := by rw [show (-12 : Int32) = iI (-12) by decide]; exact iIm (by omega) (by decide)
  obtain ⟨τ, g1, g2, g3⟩ := zc62 (d := d + 5) (p := W) h4 hk
  have fr : zFr (Wcd c0) σ (zwI τ 0 33 1 5) := zFr_tt (zFr_i g2 fun _ _ _ q => by omega) (zFr_w (by omega))
  have e55 : zev (d + 7) 55 [.inr (.inr (0, 33)), .inl (iI W)] σ = some (1, 0, zwI τ 0 33 1 5) := by
    rw [ez_55]
    simp only [e9, e12, zc59 (d := d + 5) (show zrn W by omega), zbs, zBi, decide_eq_true hW.1, cond_true, g1]
    rw [if_neg (by omega), if_neg (by omega), zgd_t (by decide)]
  rw [c49_4 h2, e55]
  simp only [zbs]
  rw [zgd_t (by decide)]
  exact ⟨_, rfl, fr, cTp_d h1 fr, by rw [zfs]; rfl, (fr.1 _ _ _ (by omega)).trans h3, cMm_u g3 (Or.inl rfl)⟩
theorem t4n {t : zXt} {d n c0 o : Nat} {L R : List Int} (hk : R.length < 200) : cTk t d 4 n c0 o L R (-9) 4 o L (-9 :: R) := by
  intro σ ⟨h1, h2, h3, h4⟩
  obtain ⟨τ, g1, g2, g3⟩ := zc60 (d := d + 5) (p := -9) h4 hk
  have g1 : zev (d + 6) 60 [.inr (.inr (0, 33)), .inl (-9)] σ = some (0, 0, τ) := g1
  have fr : zFr (Wcd c0) σ τ := zFr_i g2 fun _ _ _ q => by omega
  have e55 : zev (d + 7) 55 [.inr (.inr (0, 33)), .inl (iI (-9))] σ = some (1, 0, τ) := by
    rw [ez_55]
    simp only [g1, zbs]
    rw [if_pos (show iI (-9) = -9 by decide), zgd_t (by decide)]
  rw [c49_4 h2, e55]
  simp only [zbs]
  rw [zgd_t (by decide)]
  exact ⟨_, rfl, fr, cTp_d h1 fr, (g2.1 _ _ _ (by omega)).trans h2, (fr.1 _ _ _ (by omega)).trans h3, g3⟩
theorem t4o {t : zXt} {d n c0 o : Nat} {L R : List Int} (ho : o < 3) (hk : R.length < 200) : cTk t d 4 n c0 o L R (-12) 4 (o + 1) L (-12 :: R) := by
  intro σ ⟨h1, h2, h3, h4⟩
  have e3 : (iI (o : Int) < 3) = ((o : Int) < 3) := iI_lt (b := 3) (by omega) (by decide)
  obtain ⟨τ, g1, g2, g3⟩ := zc60 (d := d + 5) (p := -12) (cMm_o (o' := o + 1) h4) hk
  have g1 : zev (d + 6) 60 [.inr (.inr (0, 33)), .inl (-12)] (zwI σ 0 33 3 (iI ((o + 1 : Nat) : Int))) = some (0, 0, τ) := g1
  have fr : zFr (Wcd c0) σ τ := zFr_tt (zFr_w (by omega)) (zFr_i g2 fun _ _ _ q => by omega)
  have e55 : zev (d + 7) 55 [.inr (.inr (0, 33)), .inl (iI (-12))] σ = some (1, 0, τ) := by
    rw [ez_55, h4.1]
    simp only [e3, hki1, g1, zbs]
    rw [if_neg (show ¬ iI (-12) = -9 by decide), if_pos (show iI (-12) = -12 by decide), if_pos (by omega), zgd_t (by decide)]
  rw [c49_4 h2, e55]
  simp only [zbs]
  rw [zgd_t (by decide)]
  exact ⟨_, rfl, fr, cTp_d h1 fr, (g2.1 _ _ _ (by omega)).trans (by rw [zfe (by omega)]; exact h2), (fr.1 _ _ _ (by omega)).trans h3, g3⟩
theorem t4x {t : zXt} {d n c0 o : Nat} {L R : List Int} {W : Int} (hW : zrn W) (h5 : W < -5) (h9 : W ≠ -9) (h12 : W = -12 → 3 ≤ o) (ho : o ≤ 3) : cNo t d 4 n c0 o L R W := by
  intro σ ⟨h1, h2, h3, h4⟩
  have e9 : (iI W = -9) = (W = -9) := by rw [show (-9 : Int32) = iI (-9) by decide]; exact iIm hW (by decide)
  have e12 : (iI W = -12) = (W = -12) := by rw [show (-12 : Int32) = iI (-12) by decide]; exact iIm hW (by decide)
  have e3 : (iI (o : Int) < 3) = ((o : Int) < 3) := iI_lt (b := 3) (by omega) (by decide)
  have e55 : zev (d + 7) 55 [.inr (.inr (0, 33)), .inl (iI W)] σ = some (0, 0, σ) := by
    rw [ez_55, h4.1]
    simp only [e9, e12, e3, zc59 (d := d + 5) hW, zbs, zBi, decide_eq_false (show ¬ -5 ≤ W by omega), cond_false]
    rw [if_neg h9]
    by_cases q : W = -12
    · rw [if_pos q, if_neg (by have := h12 q; omega), zgd_t (by decide)]
    · rw [if_neg q, zgd_t (by decide)]
  rw [c49_4 h2, e55]
  simp only [zbs]
  rw [zgd_t (by decide)]
