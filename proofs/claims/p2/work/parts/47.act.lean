theorem tSw_t {k : Int} {t : zXt} : tSw k true t = t := by
  unfold tSw
  split
  · rfl
  · split <;> rfl
theorem zc8 {d : Nat} {t : zXt} {pt : Bool} {k n a : Int} {x : Int32} {σ : zM} (hn : zrn n) (ha : zrn a) (hd : zrn (a - n)) (h : cQ t pt k n a σ) (ht : t.1 < 29) : ∃ τ, zev (d + 3) 8 [.inr (.inr (0, 49)), .inl x] σ = some (vPs n a (x + 1), 0, τ) ∧ zFr WA σ τ ∧ cQ (aBg pt (aBg pt t 40) 12) (pPs n a pt) k n a τ := by
  obtain ⟨τ, g1, g2, g3⟩ := zc1 (d := d + 1) (b := 40) h (by omega)
  have g1 : zev (d + 2) 1 [.inr (.inr (0, 49)), .inl 40] σ = _ := g1
  obtain ⟨τ2, f1, f2, f3⟩ := zc9 (d := d) (x := x + 1) hn ha hd g3 (by have := aBg_l (pt := pt) (t := t) (b := 40); omega)
  rw [ez_8]
  simp only [g1, f1, zbs]
  exact ⟨τ2, rfl, zFr_tt g2 f2, f3⟩
theorem zc4 {d : Nat} {t : zXt} {pt : Bool} {k n a : Int} {x : Int32} {σ : zM} (hk : 1 ≤ k ∧ k ≤ 5) (hn : zrn n) (ha : zrn a) (hd : zrn (a - n)) (h : cQ t pt k n a σ) (ht : t.1 < 24) : ∃ τ, zev (d + 4) 4 [.inr (.inr (0, 49)), .inl x] σ = some (vSh k n a x, 0, τ) ∧ zFr WA σ τ ∧ cQ (tSh k n a pt t) (pPs n a pt) k n a τ := by
  have k4 : (iI k = 4) = (k = 4) := ifn0 hk 4 (by decide)
  have k5 : (iI k = 5) = (k = 5) := ifn0 hk 5 (by decide)
  rw [ez_4]
  simp only [h.2.2.1, k4, k5]
  unfold tSh vSh
  by_cases q4 : k = 4
  · obtain ⟨τ, g1, g2, g3⟩ := zc8 (d := d) (x := x) hn ha hd h (by omega)
    rw [if_pos q4, if_pos q4, if_pos q4, g1]
    exact ⟨τ, rfl, g2, g3⟩
  · rw [if_neg q4, if_neg q4, if_neg q4]
    by_cases q5 : k = 5
    · obtain ⟨τ, g1, g2, g3⟩ := zc1 (d := d + 2) (b := 61) h (by omega)
      have g1 : zev (d + 3) 1 [.inr (.inr (0, 49)), .inl 61] σ = _ := g1
      have l1 := aBg_l (pt := pt) (t := t) (b := 61)
      obtain ⟨τ2, f1, f2, f3⟩ := zc8 (d := d) (x := x) hn ha hd g3 (by omega)
      have l2 := aBg_l (pt := pt) (t := aBg pt t 61) (b := 40)
      have l3 := aBg_l (pt := pt) (t := aBg pt (aBg pt t 61) 40) (b := 12)
      obtain ⟨τ3, e1, e2, e3⟩ := zc2 (d := d) (x := iI a) hk f3 (by omega)
      rw [if_pos q5, if_pos q5, if_pos q5]
      simp only [g1, f1, zbs, f3.2.2.2.2, e1]
      exact ⟨τ3, rfl, zFr_tt (zFr_tt g2 f2) e2, e3⟩
    · obtain ⟨τ, g1, g2, g3⟩ := zc9 (d := d + 1) (x := x) hn ha hd h (by omega)
      rw [if_neg q5, if_neg q5, if_neg q5, g1]
      exact ⟨τ, rfl, g2, g3⟩
theorem zm263 {d : Nat} {t : zXt} {pt : Bool} {k n a : Int} {x : Int32} {σ : zM} (hk : 1 ≤ k ∧ k ≤ 5) (hn : zrn n) (ha : zrn a) (hd : zrn (a - n)) (h : mQ t pt k n a σ) (ht : t.1 < 24) : ∃ v τ, zev (d + 3) 263 [.inr (.inr (0, 60)), .inl x] σ = some (v, 0, τ) ∧ (pPs n a pt = false → v = vSh k n a x) ∧ zFr WB σ τ ∧ mQ (tSh k n a pt t) (pPs n a pt) k n a τ := by
  have k4 : (iI k = 4) = (k = 4) := ifn0 hk 4 (by decide)
  have k5 : (iI k = 5) = (k = 5) := ifn0 hk 5 (by decide)
  rw [ez_263]
  simp only [h.2.2.1, k4, k5]
  unfold tSh vSh
  by_cases q4 : k = 4
  · obtain ⟨τ, g1, g2, g3⟩ := zm259 (d := d + 1) (b := 40) h (by omega)
    have g1 : zev (d + 2) 259 [.inr (.inr (0, 60)), .inl 40] σ = _ := g1
    have l1 := aBg_l (pt := pt) (t := t) (b := 40)
    obtain ⟨τ2, f1, f2, f3⟩ := zm262 (d := d) (x := x + 1) hn ha hd g3 (by omega)
    rw [if_pos q4, if_pos q4, if_pos q4]
    simp only [g1, f1, zbs]
    exact ⟨_, τ2, rfl, fun _ => rfl, zFr_tt g2 f2, f3⟩
  · rw [if_neg q4, if_neg q4, if_neg q4]
    by_cases q5 : k = 5
    · obtain ⟨τ, g1, g2, g3⟩ := zm259 (d := d + 1) (b := 61) h (by omega)
      have g1 : zev (d + 2) 259 [.inr (.inr (0, 60)), .inl 61] σ = _ := g1
      have l1 := aBg_l (pt := pt) (t := t) (b := 61)
      obtain ⟨τ1, c1, c2, c3⟩ := zm259 (d := d + 1) (b := 40) g3 (by omega)
      have c1 : zev (d + 2) 259 [.inr (.inr (0, 60)), .inl 40] τ = _ := c1
      have l2 := aBg_l (pt := pt) (t := aBg pt t 61) (b := 40)
      obtain ⟨τ2, f1, f2, f3⟩ := zm262 (d := d) (x := x + 1) hn ha hd c3 (by omega)
      have l3 := aBg_l (pt := pt) (t := aBg pt (aBg pt t 61) 40) (b := 12)
      obtain ⟨τ3, e1, e2, e3⟩ := zm260 (d := d) (x := iI a) hk f3 (by omega)
      rw [if_pos q5, if_pos q5, if_pos q5]
      simp only [g1, c1, f1, zbs, f3.2.1, zBi, f3.2.2.2.2, e1]
      cases q : pPs n a pt
      · rw [q] at e3
        rw [cond_false]
        exact ⟨_, τ3, rfl, fun _ => rfl, zFr_tt (zFr_tt (zFr_tt g2 c2) f2) e2, e3⟩
      · rw [q] at f3
        rw [cond_true, tSw_t]
        exact ⟨_, τ2, rfl, (fun z => by cases z), zFr_tt (zFr_tt g2 c2) f2, f3⟩
    · obtain ⟨τ, g1, g2, g3⟩ := zm262 (d := d) (x := x) hn ha hd h (by omega)
      rw [if_neg q5, if_neg q5, if_neg q5, g1]
      exact ⟨_, τ, rfl, fun _ => rfl, g2, g3⟩
def pTl (k n a : Int) (pt : Bool) : Bool := if k = 3 then pPs n a pt else pt
theorem tBd_l {k : Int} {pt : Bool} {t : zXt} : (tBd k pt t).1 ≤ t.1 + 4 := by
  unfold tBd
  have l2 : (if k = 2 ∨ k = 3 then aBg pt t 30 else if k = 5 then aBg pt t 60 else t).1 ≤ t.1 + 1 := by
    split
    · exact aBg_l
    · split
      · exact aBg_l
      · exact Nat.le_succ _
  have l3 := aBg_l (pt := pt) (t := if k = 2 ∨ k = 3 then aBg pt t 30 else if k = 5 then aBg pt t 60 else t) (b := 11)
  have l4 := tSw_l (k := k) (pt := pt) (t := aBg pt (if k = 2 ∨ k = 3 then aBg pt t 30 else if k = 5 then aBg pt t 60 else t) 11)
  omega
theorem tSh_l {k n a : Int} {pt : Bool} {t : zXt} : (tSh k n a pt t).1 ≤ t.1 + 5 := by
  unfold tSh
  split
  · have l1 := aBg_l (pt := pt) (t := t) (b := 40)
    have l2 := aBg_l (pt := pt) (t := aBg pt t 40) (b := 12)
    omega
  · split
    · have l1 := aBg_l (pt := pt) (t := t) (b := 61)
      have l2 := aBg_l (pt := pt) (t := aBg pt t 61) (b := 40)
      have l3 := aBg_l (pt := pt) (t := aBg pt (aBg pt t 61) 40) (b := 12)
      have l4 := tSw_l (k := k) (pt := pPs n a pt) (t := aBg pt (aBg pt (aBg pt t 61) 40) 12)
      omega
    · have l1 := aBg_l (pt := pt) (t := t) (b := 12)
      omega
theorem zc5 {d : Nat} {t : zXt} {pt : Bool} {k n a : Int} {x : Int32} {σ : zM} (hk : 1 ≤ k ∧ k ≤ 5) (hn : zrn n) (ha : zrn a) (hd : zrn (a - n)) (h : cQ t pt k n a σ) (ht : t.1 < 14) : ∃ τ, zev (d + 7) 5 [.inr (.inr (0, 49)), .inl x] σ = some (vTl k n a x, 0, τ) ∧ zFr WA σ τ ∧ cQ (tTl k n a pt t) (pTl k n a pt) k n a τ := by
  have k3 : (iI k = 3) = (k = 3) := ifn0 hk 3 (by decide)
  have e10 : ∀ (t : zXt) (σ : zM), cQ t pt k n a σ → t.1 < 20 → ∃ τ, zev (d + 6) 10 [.inr (.inr (0, 49)), .inl x] σ = some (vBd k n a x ^^^ iI a, 0, τ) ∧ zFr WA σ τ ∧ cQ (tBd k pt (aBg pt t 13)) pt k n a τ := by
    intro t σ h ht
    obtain ⟨τ, g1, g2, g3⟩ := zc1 (d := d + 4) (b := 13) h (by omega)
    have g1 : zev (d + 5) 1 [.inr (.inr (0, 49)), .inl 13] σ = _ := g1
    have l1 := aBg_l (pt := pt) (t := t) (b := 13)
    obtain ⟨τ2, f1, f2, f3⟩ := zc3 (d := d) (x := x) hk g3 (by omega)
    rw [ez_10]
    simp only [g1, f1, zbs, f3.2.2.2.2]
    exact ⟨τ2, rfl, zFr_tt g2 f2, f3⟩
  rw [ez_5]
  simp only [h.2.2.1, k3]
  unfold tTl vTl pTl
  by_cases q : k = 3
  · obtain ⟨τ, g1, g2, g3⟩ := zc1 (d := d + 5) (b := 51) h (by omega)
    have g1 : zev (d + 6) 1 [.inr (.inr (0, 49)), .inl 51] σ = _ := g1
    have l1 := aBg_l (pt := pt) (t := t) (b := 51)
    obtain ⟨τ2, f1, f2, f3⟩ := e10 _ τ g3 (by omega)
    have l2 := aBg_l (pt := pt) (t := aBg pt t 51) (b := 13)
    have l3 := tBd_l (k := k) (pt := pt) (t := aBg pt (aBg pt t 51) 13)
    obtain ⟨τ3, e1, e2, e3⟩ := zc4 (d := d + 2) (x := iI n) hk hn ha hd f3 (by omega)
    rw [if_pos q, if_pos q, if_pos q, if_pos q]
    simp only [g1, f1, zbs, f3.2.2.2.1, e1]
    exact ⟨τ3, rfl, zFr_tt (zFr_tt g2 f2) e2, e3⟩
  · obtain ⟨τ2, f1, f2, f3⟩ := e10 _ σ h (by omega)
    rw [if_neg q, if_neg q, if_neg q, if_neg q, f1]
    exact ⟨τ2, rfl, f2, f3⟩
theorem zm264 {d : Nat} {t : zXt} {pt : Bool} {k n a : Int} {x : Int32} {σ : zM} (hk : 1 ≤ k ∧ k ≤ 5) (hn : zrn n) (ha : zrn a) (hd : zrn (a - n)) (h : mQ t pt k n a σ) (ht : t.1 < 14) : ∃ v τ, zev (d + 4) 264 [.inr (.inr (0, 60)), .inl x] σ = some (v, 0, τ) ∧ (pTl k n a pt = false → v = vTl k n a x) ∧ zFr WB σ τ ∧ mQ (tTl k n a pt t) (pTl k n a pt) k n a τ := by
  have k3 : (iI k = 3) = (k = 3) := ifn0 hk 3 (by decide)
  have e14 : ∀ (t : zXt) (σ : zM), mQ t pt k n a σ → t.1 < 15 → ∃ v τ, zrun (zev (d + 3)) zT_264 14 [some (.inr (.inr (0, 60))), some (.inl x), none] [] σ = some (v, 0, τ) ∧ (pTl k n a pt = false → v = vTl k n a x) ∧ zFr WB σ τ ∧ mQ (if k = 3 then tSh k n a pt (tBd k pt (aBg pt t 13)) else tBd k pt (aBg pt t 13)) (pTl k n a pt) k n a τ := by
    intro t σ h ht
    obtain ⟨τ, g1, g2, g3⟩ := zm259 (d := d + 2) (b := 13) h (by omega)
    have g1 : zev (d + 3) 259 [.inr (.inr (0, 60)), .inl 13] σ = _ := g1
    have l1 := aBg_l (pt := pt) (t := t) (b := 13)
    obtain ⟨τ2, f1, f2, f3⟩ := zm261 (d := d) (x := x) hk g3 (by omega)
    have l3 := tBd_l (k := k) (pt := pt) (t := aBg pt t 13)
    rw [ez_264_14]
    simp only [g1, f1, zbs, f3.2.2.1, k3, f3.2.2.2.1, f3.2.2.2.2]
    unfold pTl vTl
    by_cases q : k = 3
    · obtain ⟨v, τ3, e1, e0, e2, e3⟩ := zm263 (d := d) (x := iI n) hk hn ha hd f3 (by omega)
      rw [if_pos q, if_pos q, if_pos q, if_pos q, e1]
      exact ⟨_, τ3, rfl, fun z => by rw [e0 z], zFr_tt (zFr_tt g2 f2) e2, e3⟩
    · rw [if_neg q, if_neg q, if_neg q, if_neg q]
      exact ⟨_, τ2, rfl, fun _ => rfl, zFr_tt g2 f2, f3⟩
  rw [ez_264]
  simp only [h.2.2.1, k3]
  unfold tTl
  by_cases q : k = 3
  · obtain ⟨τ, g1, g2, g3⟩ := zm259 (d := d + 2) (b := 51) h (by omega)
    have g1 : zev (d + 3) 259 [.inr (.inr (0, 60)), .inl 51] σ = _ := g1
    have l1 := aBg_l (pt := pt) (t := t) (b := 51)
    obtain ⟨v, τ2, f1, f0, f2, f3⟩ := e14 _ τ g3 (by omega)
    rw [if_pos q] at f3
    rw [if_pos q, if_pos q, g1]
    exact ⟨v, τ2, f1, f0, zFr_tt g2 f2, f3⟩
  · obtain ⟨v, τ2, f1, f0, f2, f3⟩ := e14 _ σ h (by omega)
    rw [if_neg q] at f3
    rw [if_neg q, if_neg q]
    exact ⟨v, τ2, f1, f0, f2, f3⟩
