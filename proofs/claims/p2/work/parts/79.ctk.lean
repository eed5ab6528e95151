theorem c49_0 {d : Nat} {W : Int32} {σ : zM} (h : σ.1 0 33 1 = iI (0 : Nat)) : zev (d + 8) 49 [.inr (.inr (0, 33)), .inl W] σ = (zev (d + 7) 50 [.inr (.inr (0, 33)), .inl W] σ).bind fun x => zgd (zret 3 x.1) (some (x.1, 0, x.2.2)) := by
  rw [ez_49, h]
  simp only
  rw [if_pos (show iI (0 : Nat) = 0 by decide)]
theorem c49_1 {d : Nat} {W : Int32} {σ : zM} (h : σ.1 0 33 1 = iI (1 : Nat)) : zev (d + 8) 49 [.inr (.inr (0, 33)), .inl W] σ = (zev (d + 7) 51 [.inr (.inr (0, 33)), .inl W] σ).bind fun x1 => if x1.1 = 0 then ((zev (d + 7) 52 [.inr (.inr (0, 33)), .inl W] x1.2.2).bind fun x2 => if x2.1 = 0 then (zgd (zret 3 0) (some (0, 0, x2.2.2))) else (zgd (zret 3 1) (some (1, 0, x2.2.2)))) else (zgd (zret 3 1) (some (1, 0, x1.2.2))) := by
  rw [ez_49, h]
  simp only
  rw [if_neg (show ¬ iI (1 : Nat) = 0 by decide), if_pos (show iI (1 : Nat) = 1 by decide)]
theorem c49_2 {d : Nat} {W : Int32} {σ : zM} (h : σ.1 0 33 1 = iI (2 : Nat)) : zev (d + 8) 49 [.inr (.inr (0, 33)), .inl W] σ = (zev (d + 7) 53 [.inr (.inr (0, 33)), .inl W] σ).bind fun x => zgd (zret 3 x.1) (some (x.1, 0, x.2.2)) := by
  rw [ez_49, h]
  simp only
  rw [if_neg (show ¬ iI (2 : Nat) = 0 by decide), if_neg (show ¬ iI (2 : Nat) = 1 by decide), if_pos (show iI (2 : Nat) = 2 by decide)]
theorem c49_3 {d : Nat} {W : Int32} {σ : zM} (h : σ.1 0 33 1 = iI (3 : Nat)) : zev (d + 8) 49 [.inr (.inr (0, 33)), .inl W] σ = (zev (d + 7) 54 [.inr (.inr (0, 33)), .inl W] σ).bind fun x => zgd (zret 3 x.1) (some (x.1, 0, x.2.2)) := by
  rw [ez_49, h]
  simp only
  rw [if_neg (show ¬ iI (3 : Nat) = 0 by decide), if_neg (show ¬ iI (3 : Nat) = 1 by decide), if_neg (show ¬ iI (3 : Nat) = 2 by decide), if_pos (show iI (3 : Nat) = 3 by decide)]
theorem wMem_0 {R : List Int} {σ : zM} {g k i : Nat} {v : Int32} (h : wMem σ R) (q : ¬ (g = 0 ∧ k = 34)) : wMem (zwI σ g k i v) R := wMem_f h (fun j _ => by rw [zfe (by omega)])
theorem cMm_4 {c0 o : Nat} {L R : List Int} {σ : zM} {k i : Nat} {v : Int32} (h : cMm c0 o L R σ) (hk : k ≠ 12) : cMm c0 o L R (zwI σ 4 k i v) := by
  obtain ⟨a1, a2, a3, a4, a5⟩ := h
  exact ⟨by rw [zfe (by omega)]; exact a1, by rw [zfe (by omega)]; exact a2, fun j hj => by rw [zfe (by omega)]; exact a3 j hj, by rw [zfe (by omega)]; exact a4, wMem_0 a5 (by omega)⟩
theorem t0k {t : zXt} {d n c0 o : Nat} {L R : List Int} {W : Int} {σ : zM} (h : cAt t 0 n c0 o L R σ) (hW : -25 ≤ W ∧ W ≤ -20) (hn : n < 8) : ∃ τ, zev (d + 8) 49 [.inr (.inr (0, 33)), .inl (iI W)] σ = some (1, 0, τ) ∧ zFr (fun g k i => (g = 4 ∧ k = 8 ∧ i = n) ∨ (g = 0 ∧ k = 33)) σ τ ∧ cAt t 1 n c0 o L R τ ∧ τ.1 4 8 n = iI (-20 - W) := by
  obtain ⟨h1, h2, h3, h4⟩ := h
  have ew : (-20 : Int32) - iI W = iI (-20 - W) := by rw [show (-20 : Int32) = iI (-20) by decide, iI_sub]
  have e141 : zev (d + 6) 141 [.inl (iI (-20 - W)), .inl 0, .inl 5] σ = some (zB (decide (0 ≤ -20 - W ∧ -20 - W ≤ 5)), 0, σ) := zc141 (l := 0) (h := 5) (by omega) (by decide) (by decide)
  have fr : zFr (fun g k i => (g = 4 ∧ k = 8 ∧ i = n) ∨ (g = 0 ∧ k = 33)) σ (zwI (zwI σ 4 8 n (iI (-20 - W))) 0 33 1 1) := zFr_tt (zFr_w (by omega)) (zFr_w (by omega))
  have e50 : zev (d + 7) 50 [.inr (.inr (0, 33)), .inl (iI W)] σ = some (1, 0, zwI (zwI σ 4 8 n (iI (-20 - W))) 0 33 1 1) := by
    rw [ez_50]
    simp only [ew, e141, zbs, zBi, decide_eq_true (show 0 ≤ -20 - W ∧ -20 - W ≤ 5 by omega), cond_true, h3, zgd_t (iI_ink (z := n) (k := n) rfl hn (by decide)), iI_Nn (show n ≤ 2147483647 by omega)]
    rw [zgd_t (by decide)]
  rw [c49_0 h2, e50]
  simp only [zbs]
  rw [zgd_t (by decide)]
  exact ⟨_, rfl, fr, ⟨cTp_f h1 (fr.1 _ _ _ (by omega)) (zFr_f fr (fun i => by omega)), by rw [zfs]; rfl, (fr.1 _ _ _ (by omega)).trans h3, cMm_u (cMm_4 h4 (by decide)) (Or.inl rfl)⟩, by rw [zfe (by omega), zfs]⟩
theorem t0x {t : zXt} {d n c0 o : Nat} {L R : List Int} {W : Int} (hW : zrn W) (h : ¬ (-25 ≤ W ∧ W ≤ -20)) (hW2 : -99 ≤ W ∧ W ≤ 9999) : cNo t d 0 n c0 o L R W := by
  intro σ ⟨h1, h2, h3, h4⟩
  have ew : (-20 : Int32) - iI W = iI (-20 - W) := by rw [show (-20 : Int32) = iI (-20) by decide, iI_sub]
  have e141 : zev (d + 6) 141 [.inl (iI (-20 - W)), .inl 0, .inl 5] σ = some (zB (decide (0 ≤ -20 - W ∧ -20 - W ≤ 5)), 0, σ) := zc141 (l := 0) (h := 5) (by omega) (by decide) (by decide)
  have e50 : zev (d + 7) 50 [.inr (.inr (0, 33)), .inl (iI W)] σ = some (0, 0, σ) := by
    rw [ez_50]
    simp only [ew, e141, zbs, zBi, decide_eq_false (show ¬ (0 ≤ -20 - W ∧ -20 - W ≤ 5) by omega), cond_false]
    rw [zgd_t (by decide)]
  rw [c49_0 h2, e50]
  simp only [zbs]
  rw [zgd_t (by decide)]
theorem t1i {t : zXt} {d n c0 o : Nat} {L R : List Int} : cTk t d 1 n c0 o L R (-15) 4 o L R := by
  intro σ ⟨h1, h2, h3, h4⟩
  have fr : zFr (Wcd c0) σ (zwI σ 0 33 1 4) := zFr_w (by omega)
  have e51 : zev (d + 7) 51 [.inr (.inr (0, 33)), .inl (iI (-15))] σ = some (1, 0, zwI σ 0 33 1 4) := by
    rw [ez_51]
    simp only
    rw [if_pos (show iI (-15) = -15 by decide), zgd_t (by decide)]
  rw [c49_1 h2, e51]
  simp only [zbs]
  rw [if_neg (by decide), zgd_t (by decide)]
  exact ⟨_, rfl, fr, cTp_d h1 fr, by rw [zfs]; rfl, (fr.1 _ _ _ (by omega)).trans h3, cMm_u h4 (Or.inl rfl)⟩
theorem c51_x {d : Nat} {W : Int} {σ : zM} (hW : zrn W) (h : W ≠ -15) : zev (d + 7) 51 [.inr (.inr (0, 33)), .inl (iI W)] σ = some (0, 0, σ) := by
  have e15 : (iI W = -15) = (W = -15) := by rw [show (-15 : Int32) = iI (-15) by decide]; exact iIm hW (by decide)
  rw [ez_51]
  simp only [e15]
  rw [if_neg h, zgd_t (by decide)]
theorem t1d {t : zXt} {d n c0 o : Nat} {L R : List Int} {W : Int} {σ : zM} (h : cAt t 1 n c0 o L R σ) (hW : W = -16 ∨ W = -17 ∨ W = -18) (hn : n < 8) (hu : ∀ u, u ∈ R → zrn u) (hk : c0 + L.length + R.length ≤ 200) : ∃ τ, zev (d + 8) 49 [.inr (.inr (0, 33)), .inl (iI W)] σ = some (1, 0, τ) ∧ zFr (Wdd c0) σ τ ∧ cAt t (if W = -18 then 3 else 2) n c0 o (L ++ pW (-11) R) (dW (-11) R) τ ∧ τ.1 4 9 n = iI W ∧ ∀ i, i ≠ n → τ.1 4 9 i = σ.1 4 9 i := by
  obtain ⟨τ, g1, g2⟩ := zc52 (d := d) h hW hn hu hk
  refine ⟨τ, ?_, g2⟩
  rw [c49_1 h.2.1, c51_x (by omega) (by omega)]
  simp only [zbs, g1]
  rw [if_pos trivial, if_neg (by decide), zgd_t (by decide)]
theorem t1x {t : zXt} {d n c0 o : Nat} {L R : List Int} {W : Int} (hW : zrn W) (h15 : W ≠ -15) (hd : ¬ (W = -16 ∨ W = -17 ∨ W = -18)) : cNo t d 1 n c0 o L R W := by
  intro σ ⟨h1, h2, h3, h4⟩
  have em : ∀ c : Int, zrn c → (iI W = iI c) = (W = c) := fun c hc => iIm hW hc
  have e16 : (iI W = -16) = (W = -16) := by rw [show (-16 : Int32) = iI (-16) by decide]; exact em (-16) (by decide)
  have e17 : (iI W = -17) = (W = -17) := by rw [show (-17 : Int32) = iI (-17) by decide]; exact em (-17) (by decide)
  have e18 : (iI W = -18) = (W = -18) := by rw [show (-18 : Int32) = iI (-18) by decide]; exact em (-18) (by decide)
  have e52 : zev (d + 7) 52 [.inr (.inr (0, 33)), .inl (iI W)] σ = some (0, 0, σ) := by
    rw [ez_52]
    simp only [e16, e17, e18]
    rw [if_neg (fun z => hd (Or.inl z)), if_neg (fun z => hd (Or.inr (Or.inl z))), if_neg (fun z => hd (Or.inr (Or.inr z))), zgd_t (by decide)]
  rw [c49_1 h2, c51_x hW h15]
  simp only [zbs, e52]
  rw [if_pos trivial, if_pos trivial, zgd_t (by decide)]
theorem t2a {t : zXt} {d n c0 o : Nat} {L R : List Int} {W : Int} {σ : zM} (h : cAt t 2 n c0 o L R σ) (hW : 0 ≤ W ∧ W ≤ 999) (hn : n < 8) : ∃ τ, zev (d + 8) 49 [.inr (.inr (0, 33)), .inl (iI W)] σ = some (1, 0, τ) ∧ zFr (fun g k i => (g = 4 ∧ k = 10 ∧ i = n) ∨ (g = 0 ∧ k = 33)) σ τ ∧ cAt t 3 n c0 o L R τ ∧ τ.1 4 10 n = iI W := by
  obtain ⟨h1, h2, h3, h4⟩ := h
  have e141 : zev (d + 6) 141 [.inl (iI W), .inl 0, .inl 999] σ = some (zB (decide (0 ≤ W ∧ W ≤ 999)), 0, σ) := zc141 (l := 0) (h := 999) (by omega) (by decide) (by decide)
  have fr : zFr (fun g k i => (g = 4 ∧ k = 10 ∧ i = n) ∨ (g = 0 ∧ k = 33)) σ (zwI (zwI σ 4 10 n (iI W)) 0 33 1 3) := zFr_tt (zFr_w (by omega)) (zFr_w (by omega))
  have e53 : zev (d + 7) 53 [.inr (.inr (0, 33)), .inl (iI W)] σ = some (1, 0, zwI (zwI σ 4 10 n (iI W)) 0 33 1 3) := by
    rw [ez_53]
    simp only [e141, zbs, zBi, decide_eq_true hW, cond_true, h3, zgd_t (iI_ink (z := n) (k := n) rfl hn (by decide)), iI_Nn (show n ≤ 2147483647 by omega)]
    rw [zgd_t (by decide)]
  rw [c49_2 h2, e53]
  simp only [zbs]
  rw [zgd_t (by decide)]
  exact ⟨_, rfl, fr, ⟨cTp_f h1 (fr.1 _ _ _ (by omega)) (zFr_f fr (fun i => by omega)), by rw [zfs]; rfl, (fr.1 _ _ _ (by omega)).trans h3, cMm_u (cMm_4 h4 (by decide)) (Or.inl rfl)⟩, by rw [zfe (by omega), zfs]⟩
theorem t2x {t : zXt} {d n c0 o : Nat} {L R : List Int} {W : Int} (hW : zrn W) (h : ¬ (0 ≤ W ∧ W ≤ 999)) : cNo t d 2 n c0 o L R W := by
  intro σ ⟨h1, h2, h3, h4⟩
  have e141 : zev (d + 6) 141 [.inl (iI W), .inl 0, .inl 999] σ = some (zB (decide (0 ≤ W ∧ W ≤ 999)), 0, σ) := zc141 (l := 0) (h := 999) (by omega) (by decide) (by decide)
  have e53 : zev (d + 7) 53 [.inr (.inr (0, 33)), .inl (iI W)] σ = some (0, 0, σ) := by
    rw [ez_53]
    simp only [e141, zbs, zBi, decide_eq_false h, cond_false]
    rw [zgd_t (by decide)]
  rw [c49_2 h2, e53]
  simp only [zbs]
  rw [zgd_t (by decide)]
theorem t3e {t : zXt} {d n c0 o : Nat} {L : List Int} {σ : zM} (h : cAt t 3 n c0 o L [] σ) (hn : n < 8) : ∃ τ, zev (d + 8) 49 [.inr (.inr (0, 33)), .inl (iI (-14))] σ = some (1, 0, τ) ∧ zFr (fun g k i => (g = 4 ∧ ((k = 11 ∧ i = n) ∨ (k = 7 ∧ i = 0))) ∨ (g = 0 ∧ k = 33)) σ τ ∧ cAt t 0 (n + 1) (c0 + L.length) o [] [] τ ∧ τ.1 4 11 n = iI (c0 + L.length : Nat) := by
  obtain ⟨h1, h2, h3, h4⟩ := h
  have h5 := h4.2.1
  have fr : zFr (fun g k i => (g = 4 ∧ ((k = 11 ∧ i = n) ∨ (k = 7 ∧ i = 0))) ∨ (g = 0 ∧ k = 33)) σ (zwI (zwI (zwI σ 4 11 n (iI (c0 + L.length : Nat))) 4 7 0 (iI (n + 1 : Nat))) 0 33 1 0) := zFr_tt (zFr_tt (zFr_w (by omega)) (zFr_w (by omega))) (zFr_w (by omega))
  have e54 : zev (d + 7) 54 [.inr (.inr (0, 33)), .inl (iI (-14))] σ = some (1, 0, zwI (zwI (zwI σ 4 11 n (iI (c0 + L.length : Nat))) 4 7 0 (iI (n + 1 : Nat))) 0 33 1 0) := by
    rw [ez_54]
    simp only [h3, h5, zgd_t (iI_ink (z := n) (k := n) rfl hn (by decide)), iI_Nn (show n ≤ 2147483647 by omega)]
    rw [if_pos (show iI (-14) = -14 by decide), zgd_t (by decide), zfe (by omega), h3, hki1]
  rw [c49_3 h2, e54]
  simp only [zbs]
  rw [zgd_t (by decide)]
  obtain ⟨a1, a2, a3, a4, a5⟩ := cMm_u (i := 1) (v := 0) (cMm_4 (k := 7) (i := 0) (v := iI (n + 1 : Nat)) (cMm_4 (k := 11) (i := n) (v := iI (c0 + L.length : Nat)) h4 (by decide)) (by decide)) (Or.inl rfl)
  exact ⟨_, rfl, fr, ⟨cTp_f h1 (fr.1 _ _ _ (by omega)) (zFr_f fr (fun i => by omega)), by rw [zfs]; rfl, by rw [zfe (by omega), zfs], a1, a2, fun i hi => absurd hi (Nat.not_lt_zero i), a4, a5⟩, by rw [zfe (by omega), zfe (by omega), zfs]⟩
theorem t3x {t : zXt} {d n c0 o : Nat} {L R : List Int} {W : Int} (hW : zrn W) (h : W ≠ -14) : cNo t d 3 n c0 o L R W := by
  intro σ ⟨h1, h2, h3, h4⟩
  have e14 : (iI W = -14) = (W = -14) := by rw [show (-14 : Int32) = iI (-14) by decide]; exact iIm hW (by decide)
  have e54 : zev (d + 7) 54 [.inr (.inr (0, 33)), .inl (iI W)] σ = some (0, 0, σ) := by
    rw [ez_54]
    simp only [e14]
    rw [if_neg h, zgd_t (by decide)]
  rw [c49_3 h2, e54]
  simp only [zbs]
  rw [zgd_t (by decide)]
