def aTs (t : zXt) (p : Nat) : Nat := aRn (fun z => decide (z = 32)) t (t.1 - p) p
theorem aTs_l {t : zXt} {p : Nat} (h : p ≤ t.1) : p ≤ aTs t p ∧ aTs t p ≤ t.1 := by
  have := aRn_l (P := fun z => decide (z = 32)) (t := t) (t.1 - p) p
  unfold aTs
  omega
def aTf (t : zXt) (s : Nat) : Nat := if s < t.1 then aTe t s else s
theorem aTf_l {t : zXt} {s : Nat} (h : s ≤ t.1) : s ≤ aTf t s ∧ aTf t s ≤ t.1 := by
  unfold aTf
  split
  · have := aTe_l ‹_›; omega
  · omega
abbrev Wtk : Nat → Nat → Nat → Prop := fun g k i => g = 0 ∧ k = 60 ∧ (i = 19 ∨ i = 20)
def mTk (t : zXt) (s e : Nat) (σ : zM) : Prop := mTp t σ ∧ σ.1 0 60 19 = iI s ∧ σ.1 0 60 20 = iI e
theorem mTp_w {t : zXt} {σ τ : zM} (h : mTp t σ) (f : zFr Wtk σ τ) : mTp t τ := mTp_f h (f.1 _ _ _ (by omega)) (zFr_f f (fun i => by omega))
theorem zm235_86 {d : Nat} {t : zXt} (w : wT t) (lt dg : Bool) (hx : (lt && dg) = false) : ∀ (n e : Nat) (σ : zM), e + n = t.1 → mTp t σ → σ.1 0 60 20 = iI e → ∃ τ, zrun (zev (d + 3)) zT_235 86 [some (.inr (.inr (0, 60))), some (.inl (zB lt)), some (.inl (zB dg))] [] σ = some (0, 0, τ) ∧ zFr Wtk σ τ ∧ τ.1 0 60 19 = σ.1 0 60 19 ∧ τ.1 0 60 20 = iI ((bif lt then aRn aLt t n e else bif dg then aRn aDg t n e else e : Nat) : Int)
  | 0, e, σ, he, h, h20 => by
    have hl := w.1
    have e232 : zev (d + 3) 232 [.inr (.inr (0, 60)), .inl (iI e)] σ = some (iI (-1), 0, σ) := by
      rw [zm232 (d := d + 2) h w (by omega)]
      unfold aBt
      rw [if_neg (by omega)]
    rw [ez_235_86]
    simp only [h20, e232, zbs, zm233 (d := d + 1) (show zrn (-1) by decide), show aLt (-1) = false from rfl, zBi]
    rw [ez_235_104]
    simp only [h20, e232, zbs, zm234 (d := d + 1) (show zrn (-1) by decide), show aDg (-1) = false from rfl, zBi]
    refine ⟨σ, ?_, zFr_r σ, rfl, ?_⟩
    · cases lt <;> cases dg <;> rfl
    · rw [h20]
      cases lt <;> cases dg <;> rfl
  | n + 1, e, σ, he, h, h20 => by
    have hl := w.1
    have we := w.2 e (by omega)
    have e232 : zev (d + 3) 232 [.inr (.inr (0, 60)), .inl (iI e)] σ = some (iI (t.2 e), 0, σ) := by
      rw [zm232 (d := d + 2) h w (by omega)]
      unfold aBt
      rw [if_pos (by omega)]
    have i1 : iI (e : Int) + 1 = iI ((e + 1 : Nat) : Int) := hki1
    have f0 : zFr Wtk σ (zwI σ 0 60 20 (iI ((e + 1 : Nat) : Int))) := zFr_w (by omega)
    obtain ⟨τ, g1, g2, g3, g4⟩ := zm235_86 (d := d) w lt dg hx n (e + 1) (zwI σ 0 60 20 (iI ((e + 1 : Nat) : Int))) (by omega) (mTp_w h f0) zfs
    rw [zfe (by omega)] at g3
    have n104 : zrun (zev (d + 3)) zT_235 104 [some (.inr (.inr (0, 60))), some (.inl (zB lt)), some (.inl (zB dg))] [] σ = bif dg && aDg (t.2 e) then some (0, 0, τ) else some (0, 0, σ) := by
      rw [ez_235_104]
      simp only [h20, e232, zbs, zm234 (d := d + 1) (show zrn (t.2 e) by omega), zBi, i1, g1]
      cases dg <;> cases aDg (t.2 e) <;> rfl
    have el : aRn aLt t (n + 1) e = bif aLt (t.2 e) then aRn aLt t n (e + 1) else e := rfl
    have ed : aRn aDg t (n + 1) e = bif aDg (t.2 e) then aRn aDg t n (e + 1) else e := rfl
    rw [ez_235_86]
    simp only [h20, e232, zbs, zm233 (d := d + 1) (show zrn (t.2 e) by omega), zBi, i1, n104, g1]
    rw [el, ed]
    cases lt
    · rw [cond_false, cond_false]
      rw [cond_false] at g4
      cases dg
      · exact ⟨σ, rfl, zFr_r σ, rfl, h20⟩
      · rw [cond_true] at g4
        cases aDg (t.2 e)
        · exact ⟨σ, rfl, zFr_r σ, rfl, h20⟩
        · exact ⟨τ, rfl, zFr_tt f0 g2, g3, g4⟩
    · rw [cond_true] at g4
      cases dg
      · cases aLt (t.2 e)
        · exact ⟨σ, rfl, zFr_r σ, rfl, h20⟩
        · exact ⟨τ, rfl, zFr_tt f0 g2, g3, g4⟩
      · cases hx
theorem zm235 {d p : Nat} {t : zXt} {σ : zM} (w : wT t) (h : mTp t σ) (hp : p ≤ t.1) (h20 : σ.1 0 60 20 = iI p) : ∃ τ, zev (d + 4) 235 [.inr (.inr (0, 60))] σ = some (0, 0, τ) ∧ zFr Wtk σ τ ∧ mTk t (aTs t p) (aTf t (aTs t p)) τ := by
  have hl := w.1
  have key : ∀ (n s : Nat) (σ : zM) (d1 d2 : Option zV), s + n = t.1 → mTp t σ → σ.1 0 60 19 = iI s → ∃ τ, zrun (zev (d + 3)) zT_235 8 [some (.inr (.inr (0, 60))), d1, d2] [] σ = some (0, 0, τ) ∧ zFr Wtk σ τ ∧ mTk t (aRn (fun z => decide (z = 32)) t n s) (aTf t (aRn (fun z => decide (z = 32)) t n s)) τ := by
    intro n
    induction n with
    | zero =>
      intro s σ d1 d2 hs h h19
      have e232 : zev (d + 3) 232 [.inr (.inr (0, 60)), .inl (iI s)] σ = some (iI (-1), 0, σ) := by
        rw [zm232 (d := d + 2) h w (by omega)]
        unfold aBt
        rw [if_neg (by omega)]
      rw [ez_235_8]
      simp only [h19, e232, zbs, zm233 (d := d + 1) (show zrn (-1) by decide), zm234 (d := d + 1) (show zrn (-1) by decide), h.1, iI_lt (show zrn (s : Int) by omega) (show zrn (t.1 : Int) by omega)]
      rw [if_neg (by decide), if_neg (by omega)]
      have f0 : zFr Wtk σ (zwI σ 0 60 20 (iI s)) := zFr_w (by omega)
      obtain ⟨τ, g1, g2, g3, g4⟩ := zm235_86 (d := d) w (aLt (-1)) (aDg (-1)) rfl 0 s (zwI σ 0 60 20 (iI s)) (by omega) (mTp_w h f0) zfs
      rw [zfe (by omega)] at g3
      refine ⟨τ, g1, zFr_tt f0 g2, mTp_w h (zFr_tt f0 g2), g3.trans h19, ?_⟩
      rw [g4]
      unfold aTf
      rw [if_neg (show ¬ aRn (fun z => decide (z = 32)) t 0 s < t.1 by show ¬ s < t.1; omega)]
      rfl
    | succ n ih =>
      intro s σ d1 d2 hs h h19
      have ws := w.2 s (by omega)
      have e232 : ∀ {τ : zM}, mTp t τ → zev (d + 3) 232 [.inr (.inr (0, 60)), .inl (iI s)] τ = some (iI (t.2 s), 0, τ) := fun {τ} h => by
        rw [zm232 (d := d + 2) h w (by omega)]
        unfold aBt
        rw [if_pos (by omega)]
      have er : aRn (fun z => decide (z = 32)) t (n + 1) s = bif decide (t.2 s = 32) then aRn (fun z => decide (z = 32)) t n (s + 1) else s := rfl
      have e32 : (iI (t.2 s) = 32) = (t.2 s = 32) := iI_eq (b := 32) (by omega) (by decide)
      rw [er, ez_235_8]
      simp only [h19, e232 h, zbs, e32, hki1, zm233 (d := d + 1) (show zrn (t.2 s) by omega), zm234 (d := d + 1) (show zrn (t.2 s) by omega), h.1, iI_lt (show zrn (s : Int) by omega) (show zrn (t.1 : Int) by omega)]
      by_cases q : t.2 s = 32
      · rw [if_pos q, decide_eq_true q, cond_true]
        have f0 : zFr Wtk σ (zwI σ 0 60 19 (iI ((s + 1 : Nat) : Int))) := zFr_w (by omega)
        obtain ⟨τ, g1, g2, g3⟩ := ih (s + 1) _ none none (by omega) (mTp_w h f0) zfs
        exact ⟨τ, g1, zFr_tt f0 g2, g3⟩
      · rw [if_neg q, decide_eq_false q, cond_false, if_pos (by omega)]
        have f0 : zFr Wtk σ (zwI σ 0 60 20 (iI ((s + 1 : Nat) : Int))) := zFr_w (by omega)
        have hx : (aLt (t.2 s) && aDg (t.2 s)) = false := by
          unfold aLt aDg
          by_cases a : 97 ≤ t.2 s ∧ t.2 s ≤ 122
          · rw [decide_eq_false (show ¬ (48 ≤ t.2 s ∧ t.2 s ≤ 57) by omega), Bool.and_false]
          · rw [decide_eq_false a, Bool.false_and]
        obtain ⟨τ, g1, g2, g3, g4⟩ := zm235_86 (d := d) w (aLt (t.2 s)) (aDg (t.2 s)) hx (t.1 - (s + 1)) (s + 1) (zwI σ 0 60 20 (iI ((s + 1 : Nat) : Int))) (by omega) (mTp_w h f0) zfs
        rw [zfe (by omega)] at g3
        refine ⟨τ, g1, zFr_tt f0 g2, mTp_w h (zFr_tt f0 g2), g3.trans h19, ?_⟩
        rw [g4]
        unfold aTf aTe
        rw [if_pos (show s < t.1 by omega)]
        cases aLt (t.2 s)
        · cases aDg (t.2 s) <;> rfl
        · rfl
  have f0 : zFr Wtk σ (zwI σ 0 60 19 (σ.1 0 60 20)) := zFr_w (by omega)
  obtain ⟨τ, g1, g2, g3⟩ := key (t.1 - p) p (zwI σ 0 60 19 (σ.1 0 60 20)) none none (by omega) (mTp_w h f0) (by rw [zfs, h20])
  rw [ez_235]
  exact ⟨τ, g1, zFr_tt f0 g2, g3⟩
