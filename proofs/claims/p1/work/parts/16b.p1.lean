/-! p1: one call on the fresh memory -/
def zQ : zM := (fun _ k j => if k = 91 then 5 else z0c k j, fun _ _ _ => 0)
noncomputable def zqc (n d J : Nat) (as : List zV) (v : Int32) : Bool := match zef n d J as zQ with
  | some x => decide (x.1 = v)
  | none => false
theorem zA0 {B : Nat → Bool} : zAl B [] := fun _ h => by cases h
theorem zAi {B : Nat → Bool} {x : Int32} {r : List zV} (h : zAl B r) : zAl B (.inl x :: r) := zAc trivial h
theorem zAj {B : Nat → Bool} {x : Int64} {r : List zV} (h : zAl B r) : zAl B (.inr (.inl x) :: r) := zAc trivial h
theorem zAr {B : Nat → Bool} {g k : Nat} {r : List zV} (hk : B k = true) (h : zAl B r) : zAl B (.inr (.inr (g, k)) :: r) := zAc hk h
theorem zq_of {B : Nat → Bool} (hB : zCl2 B) (h90 : B 90 = false) {n d J : Nat} {as : List zV} {v : Int32} {τ : zM} (h : zqc n d J as v = true) (ha : zAl B as) (hτ : zAg B zQ τ) : zwp (zev d J as τ) (fun a _ _ => a = v) := by
  unfold zqc at h
  cases hq : zef n d J as zQ with
  | none => rw [hq] at h; cases h
  | some r =>
    rw [hq] at h
    obtain ⟨r', h1, h2, h3, h4⟩ := zef_ag hB h90 n d J as zQ τ r hq ha hτ
    exact ⟨r'.1, r'.2.1, r'.2.2, h1, h2.trans (of_decide_eq_true h)⟩
def zcK (J J2 : Nat) (as : List zV) : Prop := ∃ v, (∀ τ, zAg zBc zQ τ → zwp (zev 64 J (.inr (.inr (0, 30)) :: as) τ) (fun a _ _ => a = v)) ∧ ∀ τ, zAg zBm zQ τ → zwp (zev 64 J2 (.inr (.inr (0, 60)) :: as) τ) (fun a _ _ => a = v)
theorem zcq {J J2 n : Nat} {as : List zV} {v : Int32} (h1 : zqc n 64 J (.inr (.inr (0, 30)) :: as) v = true) (h2 : zqc n 64 J2 (.inr (.inr (0, 60)) :: as) v = true) (hc : zAl zBc as) (hm : zAl zBm as) : zcK J J2 as :=
  ⟨v, fun _ hτ => zq_of zBc_cl (by decide) h1 (zAr (by decide) hc) hτ, fun _ hτ => zq_of zBm_cl (by decide) h2 (zAr (by decide) hm) hτ⟩
theorem zQ_0 (B : Nat → Bool) (h90 : B 90 = false) (xs : Nat → Int32) : zAg B zQ (zS0 5 xs) := by
  refine ⟨fun g k i hk => ⟨?_, rfl⟩, ?_⟩
  · show (if k = 90 then xs i else if k = 91 then nI 5 else z0c k i) = (if k = 91 then 5 else z0c k i)
    have : ¬ k = 90 := fun e => by rw [e, h90] at hk; cases hk
    rw [if_neg this]
    rfl
  · rfl
theorem zSC_hi (σ : zM) : zSC (fun τ => ∀ g k i, 95 ≤ k → τ.1 g k i = σ.1 g k i ∧ τ.2 g k i = σ.2 g k i) := by
  have hlow : ∀ k, (zkd k).1 ≤ 2 → k < 95 := by
    intro k hk
    have hd : ∀ k, k < 98 → 95 ≤ k → ¬ (zkd k).1 ≤ 2 := by decide +kernel
    rcases Nat.lt_or_ge k 98 with q | q
    · rcases Nat.lt_or_ge k 95 with q2 | q2
      · exact q2
      · exact absurd hk (hd k q q2)
    · rw [zkd_far q] at hk
      exact absurd hk (by decide)
  refine ⟨fun τ g k i v hk h => ?_, fun τ g k i v hk h => ?_, fun τ g k sp g2 k2 dp n hk h => ?_⟩
  · exact fun g' k' i' hk' => ⟨(if_neg fun z => by have := hlow k hk; have := z.2.1; omega).trans (h g' k' i' hk').1, (h g' k' i' hk').2⟩
  · exact fun g' k' i' hk' => ⟨(h g' k' i' hk').1, (if_neg fun z => by have := hlow k hk; have := z.2.1; omega).trans (h g' k' i' hk').2⟩
  · exact fun g' k' i' hk' => ⟨(if_neg fun z => by have := hlow k2 hk; have := z.2.1; omega).trans (h g' k' i' hk').1, (h g' k' i' hk').2⟩
theorem zcase {J J2 : Nat} {as : List zV} {xs : Nat → Int32} (h : zcK J J2 as) (hc : zAl zBc as) (hm : zAl zBm as) : ∃ v w1 σ1, zev 64 J (.inr (.inr (0, 30)) :: as) (zS0 5 xs) = some (v, w1, σ1) ∧ zscr 5 xs σ1 ∧ ∃ w2 σ2, zev 64 J2 (.inr (.inr (0, 60)) :: as) σ1 = some (v, w2, σ2) ∧ zscr 5 xs σ2 := by
  obtain ⟨v, h1, h2⟩ := h
  obtain ⟨a, w1, σ1, e1, rfl⟩ := h1 _ (zQ_0 zBc (by decide) xs)
  have s0 : zscr 5 xs (zS0 5 xs) := ⟨rfl, fun j _ => rfl⟩
  have s1 := zev_sc (zscr_sc 5 xs) 64 _ _ _ _ e1 s0
  have f1 := zev_sm zBc_cl e1 (zAr (by decide) hc)
  have f2 := zev_sc (zSC_hi (zS0 5 xs)) 64 _ _ _ _ e1 (fun _ _ _ _ => ⟨rfl, rfl⟩)
  have q := zQ_0 zBm (by decide) xs
  have g1 : zAg zBm zQ σ1 := by
    refine ⟨fun g k i hk => ?_, ?_⟩
    · rcases Nat.lt_or_ge k 95 with q2 | q2
      · have hk2 : zBc k = false := by
          have hd : ∀ k, k < 95 → zBm k = true → zBc k = false := by decide +kernel
          exact hd k q2 hk
        exact ⟨(f1 g k i hk2).1.trans (q.1 g k i hk).1, (f1 g k i hk2).2.trans (q.1 g k i hk).2⟩
      · exact ⟨(f2 g k i q2).1.trans (q.1 g k i hk).1, (f2 g k i q2).2.trans (q.1 g k i hk).2⟩
    · exact s1.1.trans rfl
  obtain ⟨a2, w2, σ2, e2, rfl⟩ := h2 _ g1
  exact ⟨_, w1, σ1, e1, s1, w2, σ2, e2, zev_sc (zscr_sc 5 xs) 64 _ _ _ _ e2 s1⟩
theorem zend {σ : zM} {xs : Nat → Int32} (h : zscr 5 xs σ) : zwp (zrun (zev 64) zT_281 1581 zl0 [] σ) (fun a _ _ => a = 1) := by
  unfold zl0
  rw [ezL_1581, ezL_18, h.1]
  exact zwp_ite (fun _ => zwp_gd (by decide) (zwp_some rfl)) (fun hn => absurd (by decide) hn)

theorem zgs1 {σ : zM} {xs : Nat → Int32} (h : zscr 5 xs σ) {X : zR} : zgd (zin (0 + 1) (zslen σ)) X = X := zgd_t (by unfold zslen; rw [h.1]; decide)
theorem zrs1 {σ : zM} {xs : Nat → Int32} (h : zscr 5 xs σ) : σ.1 0 90 (Int32.toNatClampNeg (0 + 1)) = xs 1 := h.2 1 (by decide)
theorem zgs2 {σ : zM} {xs : Nat → Int32} (h : zscr 5 xs σ) {X : zR} : zgd (zin (0 + 2) (zslen σ)) X = X := zgd_t (by unfold zslen; rw [h.1]; decide)
theorem zrs2 {σ : zM} {xs : Nat → Int32} (h : zscr 5 xs σ) : σ.1 0 90 (Int32.toNatClampNeg (0 + 2)) = xs 2 := h.2 2 (by decide)
theorem zgs3 {σ : zM} {xs : Nat → Int32} (h : zscr 5 xs σ) {X : zR} : zgd (zin (0 + 3) (zslen σ)) X = X := zgd_t (by unfold zslen; rw [h.1]; decide)
theorem zrs3 {σ : zM} {xs : Nat → Int32} (h : zscr 5 xs σ) : σ.1 0 90 (Int32.toNatClampNeg (0 + 3)) = xs 3 := h.2 3 (by decide)
theorem zgs4 {σ : zM} {xs : Nat → Int32} (h : zscr 5 xs σ) {X : zR} : zgd (zin (0 + 4) (zslen σ)) X = X := zgd_t (by unfold zslen; rw [h.1]; decide)
theorem zrs4 {σ : zM} {xs : Nat → Int32} (h : zscr 5 xs σ) : σ.1 0 90 (Int32.toNatClampNeg (0 + 4)) = xs 4 := h.2 4 (by decide)
theorem zq_244 {xs : Nat → Int32} (h : zcK 84 160 [.inl (xs 1), .inl (xs 2), .inl (xs 3), .inl (xs 4)]) : zwp (zrun (zev 64) zT_281 244 zl0 [] (zS0 5 xs)) (fun a _ _ => a = 1) := by
  obtain ⟨v, w1, σ1, e1, s1, w2, σ2, e2, s2⟩ := zcase (xs := xs) h (zAi (zAi (zAi (zAi zA0)))) (zAi (zAi (zAi (zAi zA0))))
  have s0 : zscr 5 xs (zS0 5 xs) := ⟨rfl, fun j _ => rfl⟩
  unfold zl0
  rw [ezL_244]
  simp only [zgs1 s0, zrs1 s0, zgs2 s0, zrs2 s0, zgs3 s0, zrs3 s0, zgs4 s0, zrs4 s0]
  rw [e1]
  simp only [zbs, zgs1 s1, zrs1 s1, zgs2 s1, zrs2 s1, zgs3 s1, zrs3 s1, zgs4 s1, zrs4 s1]
  rw [e2]
  simp only [zbs, if_true]
  exact zend s2
theorem zq_297 {xs : Nat → Int32} (h : zcK 85 173 [.inl (xs 1), .inl (xs 2)]) : zwp (zrun (zev 64) zT_281 297 zl0 [] (zS0 5 xs)) (fun a _ _ => a = 1) := by
  obtain ⟨v, w1, σ1, e1, s1, w2, σ2, e2, s2⟩ := zcase (xs := xs) h (zAi (zAi zA0)) (zAi (zAi zA0))
  have s0 : zscr 5 xs (zS0 5 xs) := ⟨rfl, fun j _ => rfl⟩
  unfold zl0
  rw [ezL_297]
  simp only [zgs1 s0, zrs1 s0, zgs2 s0, zrs2 s0]
  rw [e1]
  simp only [zbs, zgs1 s1, zrs1 s1, zgs2 s1, zrs2 s1]
  rw [e2]
  simp only [zbs, if_true]
  exact zend s2
theorem zq_330 {xs : Nat → Int32} (h : zcK 86 174 [.inl (xs 1), .inl (xs 2), .inl (xs 3)]) : zwp (zrun (zev 64) zT_281 330 zl0 [] (zS0 5 xs)) (fun a _ _ => a = 1) := by
  obtain ⟨v, w1, σ1, e1, s1, w2, σ2, e2, s2⟩ := zcase (xs := xs) h (zAi (zAi (zAi zA0))) (zAi (zAi (zAi zA0)))
  have s0 : zscr 5 xs (zS0 5 xs) := ⟨rfl, fun j _ => rfl⟩
  unfold zl0
  rw [ezL_330]
  simp only [zgs1 s0, zrs1 s0, zgs2 s0, zrs2 s0, zgs3 s0, zrs3 s0]
  rw [e1]
  simp only [zbs, zgs1 s1, zrs1 s1, zgs2 s1, zrs2 s1, zgs3 s1, zrs3 s1]
  rw [e2]
  simp only [zbs, if_true]
  exact zend s2
theorem zq_373 {xs : Nat → Int32} (h : zcK 87 175 [.inl (xs 1), .inl (xs 2)]) : zwp (zrun (zev 64) zT_281 373 zl0 [] (zS0 5 xs)) (fun a _ _ => a = 1) := by
  obtain ⟨v, w1, σ1, e1, s1, w2, σ2, e2, s2⟩ := zcase (xs := xs) h (zAi (zAi zA0)) (zAi (zAi zA0))
  have s0 : zscr 5 xs (zS0 5 xs) := ⟨rfl, fun j _ => rfl⟩
  unfold zl0
  rw [ezL_373]
  simp only [zgs1 s0, zrs1 s0, zgs2 s0, zrs2 s0]
  rw [e1]
  simp only [zbs, zgs1 s1, zrs1 s1, zgs2 s1, zrs2 s1]
  rw [e2]
  simp only [zbs, if_true]
  exact zend s2
theorem zq_406 {xs : Nat → Int32} (h : zcK 88 176 [.inl (xs 1), .inl (xs 2)]) : zwp (zrun (zev 64) zT_281 406 zl0 [] (zS0 5 xs)) (fun a _ _ => a = 1) := by
  obtain ⟨v, w1, σ1, e1, s1, w2, σ2, e2, s2⟩ := zcase (xs := xs) h (zAi (zAi zA0)) (zAi (zAi zA0))
  have s0 : zscr 5 xs (zS0 5 xs) := ⟨rfl, fun j _ => rfl⟩
  unfold zl0
  rw [ezL_406]
  simp only [zgs1 s0, zrs1 s0, zgs2 s0, zrs2 s0]
  rw [e1]
  simp only [zbs, zgs1 s1, zrs1 s1, zgs2 s1, zrs2 s1]
  rw [e2]
  simp only [zbs, if_true]
  exact zend s2
theorem zq_439 {xs : Nat → Int32} (h : zcK 89 231 [.inr (.inl (((Int32.toInt64 (xs 1)) <<< (Int32.toInt64 32 &&& 63)) ||| ((Int32.toInt64 (xs 2)) &&& 4294967295))), .inl (xs 3)]) : zwp (zrun (zev 64) zT_281 439 zl0 [] (zS0 5 xs)) (fun a _ _ => a = 1) := by
  obtain ⟨v, w1, σ1, e1, s1, w2, σ2, e2, s2⟩ := zcase (xs := xs) h (zAj (zAi zA0)) (zAj (zAi zA0))
  have s0 : zscr 5 xs (zS0 5 xs) := ⟨rfl, fun j _ => rfl⟩
  unfold zl0
  rw [ezL_439]
  simp only [zgs1 s0, zrs1 s0, zgs2 s0, zrs2 s0, zgs3 s0, zrs3 s0]
  rw [e1]
  simp only [zbs, zgs1 s1, zrs1 s1, zgs2 s1, zrs2 s1, zgs3 s1, zrs3 s1]
  rw [e2]
  simp only [zbs, if_true]
  exact zend s2
theorem zq_502 {xs : Nat → Int32} (h : zcK 90 248 []) : zwp (zrun (zev 64) zT_281 502 zl0 [] (zS0 5 xs)) (fun a _ _ => a = 1) := by
  obtain ⟨v, w1, σ1, e1, s1, w2, σ2, e2, s2⟩ := zcase (xs := xs) h zA0 zA0
  have s0 : zscr 5 xs (zS0 5 xs) := ⟨rfl, fun j _ => rfl⟩
  unfold zl0
  rw [ezL_502]
  rw [e1]
  simp only [zbs]
  rw [e2]
  simp only [zbs, if_true]
  exact zend s2
theorem zq_515 {xs : Nat → Int32} (h : zcK 91 181 [.inl (xs 1), .inl (xs 2)]) : zwp (zrun (zev 64) zT_281 515 zl0 [] (zS0 5 xs)) (fun a _ _ => a = 1) := by
  obtain ⟨v, w1, σ1, e1, s1, w2, σ2, e2, s2⟩ := zcase (xs := xs) h (zAi (zAi zA0)) (zAi (zAi zA0))
  have s0 : zscr 5 xs (zS0 5 xs) := ⟨rfl, fun j _ => rfl⟩
  unfold zl0
  rw [ezL_515]
  simp only [zgs1 s0, zrs1 s0, zgs2 s0, zrs2 s0]
  rw [e1]
  simp only [zbs, zgs1 s1, zrs1 s1, zgs2 s1, zrs2 s1]
  rw [e2]
  simp only [zbs, if_true]
  exact zend s2
theorem zq_548 {xs : Nat → Int32} (h : zcK 92 183 [.inl (xs 1), .inl (xs 2)]) : zwp (zrun (zev 64) zT_281 548 zl0 [] (zS0 5 xs)) (fun a _ _ => a = 1) := by
  obtain ⟨v, w1, σ1, e1, s1, w2, σ2, e2, s2⟩ := zcase (xs := xs) h (zAi (zAi zA0)) (zAi (zAi zA0))
  have s0 : zscr 5 xs (zS0 5 xs) := ⟨rfl, fun j _ => rfl⟩
  unfold zl0
  rw [ezL_548]
  simp only [zgs1 s0, zrs1 s0, zgs2 s0, zrs2 s0]
  rw [e1]
  simp only [zbs, zgs1 s1, zrs1 s1, zgs2 s1, zrs2 s1]
  rw [e2]
  simp only [zbs, if_true]
  exact zend s2
theorem zq_581 {xs : Nat → Int32} (h : zcK 93 184 [.inl (xs 1), .inl (xs 2)]) : zwp (zrun (zev 64) zT_281 581 zl0 [] (zS0 5 xs)) (fun a _ _ => a = 1) := by
  obtain ⟨v, w1, σ1, e1, s1, w2, σ2, e2, s2⟩ := zcase (xs := xs) h (zAi (zAi zA0)) (zAi (zAi zA0))
  have s0 : zscr 5 xs (zS0 5 xs) := ⟨rfl, fun j _ => rfl⟩
  unfold zl0
  rw [ezL_581]
  simp only [zgs1 s0, zrs1 s0, zgs2 s0, zrs2 s0]
  rw [e1]
  simp only [zbs, zgs1 s1, zrs1 s1, zgs2 s1, zrs2 s1]
  rw [e2]
  simp only [zbs, if_true]
  exact zend s2
theorem zq_614 {xs : Nat → Int32} (h : zcK 94 185 [.inl (xs 1)]) : zwp (zrun (zev 64) zT_281 614 zl0 [] (zS0 5 xs)) (fun a _ _ => a = 1) := by
  obtain ⟨v, w1, σ1, e1, s1, w2, σ2, e2, s2⟩ := zcase (xs := xs) h (zAi zA0) (zAi zA0)
  have s0 : zscr 5 xs (zS0 5 xs) := ⟨rfl, fun j _ => rfl⟩
  unfold zl0
  rw [ezL_614]
  simp only [zgs1 s0, zrs1 s0]
  rw [e1]
  simp only [zbs, zgs1 s1, zrs1 s1]
  rw [e2]
  simp only [zbs, if_true]
  exact zend s2
theorem zq_637 {xs : Nat → Int32} (h : zcK 95 186 []) : zwp (zrun (zev 64) zT_281 637 zl0 [] (zS0 5 xs)) (fun a _ _ => a = 1) := by
  obtain ⟨v, w1, σ1, e1, s1, w2, σ2, e2, s2⟩ := zcase (xs := xs) h zA0 zA0
  have s0 : zscr 5 xs (zS0 5 xs) := ⟨rfl, fun j _ => rfl⟩
  unfold zl0
  rw [ezL_637]
  rw [e1]
  simp only [zbs]
  rw [e2]
  simp only [zbs, if_true]
  exact zend s2
theorem zq_650 {xs : Nat → Int32} (h : zcK 96 188 []) : zwp (zrun (zev 64) zT_281 650 zl0 [] (zS0 5 xs)) (fun a _ _ => a = 1) := by
  obtain ⟨v, w1, σ1, e1, s1, w2, σ2, e2, s2⟩ := zcase (xs := xs) h zA0 zA0
  have s0 : zscr 5 xs (zS0 5 xs) := ⟨rfl, fun j _ => rfl⟩
  unfold zl0
  rw [ezL_650]
  rw [e1]
  simp only [zbs]
  rw [e2]
  simp only [zbs, if_true]
  exact zend s2
theorem zq_663 {xs : Nat → Int32} (h : zcK 97 191 []) : zwp (zrun (zev 64) zT_281 663 zl0 [] (zS0 5 xs)) (fun a _ _ => a = 1) := by
  obtain ⟨v, w1, σ1, e1, s1, w2, σ2, e2, s2⟩ := zcase (xs := xs) h zA0 zA0
  have s0 : zscr 5 xs (zS0 5 xs) := ⟨rfl, fun j _ => rfl⟩
  unfold zl0
  rw [ezL_663]
  rw [e1]
  simp only [zbs]
  rw [e2]
  simp only [zbs, if_true]
  exact zend s2
theorem zq_676 {xs : Nat → Int32} (h : zcK 98 192 []) : zwp (zrun (zev 64) zT_281 676 zl0 [] (zS0 5 xs)) (fun a _ _ => a = 1) := by
  obtain ⟨v, w1, σ1, e1, s1, w2, σ2, e2, s2⟩ := zcase (xs := xs) h zA0 zA0
  have s0 : zscr 5 xs (zS0 5 xs) := ⟨rfl, fun j _ => rfl⟩
  unfold zl0
  rw [ezL_676]
  rw [e1]
  simp only [zbs]
  rw [e2]
  simp only [zbs, if_true]
  exact zend s2
theorem zq_689 {xs : Nat → Int32} (h : zcK 99 194 [.inl (xs 1)]) : zwp (zrun (zev 64) zT_281 689 zl0 [] (zS0 5 xs)) (fun a _ _ => a = 1) := by
  obtain ⟨v, w1, σ1, e1, s1, w2, σ2, e2, s2⟩ := zcase (xs := xs) h (zAi zA0) (zAi zA0)
  have s0 : zscr 5 xs (zS0 5 xs) := ⟨rfl, fun j _ => rfl⟩
  unfold zl0
  rw [ezL_689]
  simp only [zgs1 s0, zrs1 s0]
  rw [e1]
  simp only [zbs, zgs1 s1, zrs1 s1]
  rw [e2]
  simp only [zbs, if_true]
  exact zend s2
theorem zq_712 {xs : Nat → Int32} (h : zcK 100 195 []) : zwp (zrun (zev 64) zT_281 712 zl0 [] (zS0 5 xs)) (fun a _ _ => a = 1) := by
  obtain ⟨v, w1, σ1, e1, s1, w2, σ2, e2, s2⟩ := zcase (xs := xs) h zA0 zA0
  have s0 : zscr 5 xs (zS0 5 xs) := ⟨rfl, fun j _ => rfl⟩
  unfold zl0
  rw [ezL_712]
  rw [e1]
  simp only [zbs]
  rw [e2]
  simp only [zbs, if_true]
  exact zend s2
theorem zq_725 {xs : Nat → Int32} (h : zcK 101 197 [.inl (xs 1)]) : zwp (zrun (zev 64) zT_281 725 zl0 [] (zS0 5 xs)) (fun a _ _ => a = 1) := by
  obtain ⟨v, w1, σ1, e1, s1, w2, σ2, e2, s2⟩ := zcase (xs := xs) h (zAi zA0) (zAi zA0)
  have s0 : zscr 5 xs (zS0 5 xs) := ⟨rfl, fun j _ => rfl⟩
  unfold zl0
  rw [ezL_725]
  simp only [zgs1 s0, zrs1 s0]
  rw [e1]
  simp only [zbs, zgs1 s1, zrs1 s1]
  rw [e2]
  simp only [zbs, if_true]
  exact zend s2
theorem zq_748 {xs : Nat → Int32} (h : zcK 102 198 [.inl (xs 1)]) : zwp (zrun (zev 64) zT_281 748 zl0 [] (zS0 5 xs)) (fun a _ _ => a = 1) := by
  obtain ⟨v, w1, σ1, e1, s1, w2, σ2, e2, s2⟩ := zcase (xs := xs) h (zAi zA0) (zAi zA0)
  have s0 : zscr 5 xs (zS0 5 xs) := ⟨rfl, fun j _ => rfl⟩
  unfold zl0
  rw [ezL_748]
  simp only [zgs1 s0, zrs1 s0]
  rw [e1]
  simp only [zbs, zgs1 s1, zrs1 s1]
  rw [e2]
  simp only [zbs, if_true]
  exact zend s2
theorem zq_771 {xs : Nat → Int32} (h : zcK 103 199 [.inl (xs 1)]) : zwp (zrun (zev 64) zT_281 771 zl0 [] (zS0 5 xs)) (fun a _ _ => a = 1) := by
  obtain ⟨v, w1, σ1, e1, s1, w2, σ2, e2, s2⟩ := zcase (xs := xs) h (zAi zA0) (zAi zA0)
  have s0 : zscr 5 xs (zS0 5 xs) := ⟨rfl, fun j _ => rfl⟩
  unfold zl0
  rw [ezL_771]
  simp only [zgs1 s0, zrs1 s0]
  rw [e1]
  simp only [zbs, zgs1 s1, zrs1 s1]
  rw [e2]
  simp only [zbs, if_true]
  exact zend s2
theorem zq_794 {xs : Nat → Int32} (h : zcK 104 200 []) : zwp (zrun (zev 64) zT_281 794 zl0 [] (zS0 5 xs)) (fun a _ _ => a = 1) := by
  obtain ⟨v, w1, σ1, e1, s1, w2, σ2, e2, s2⟩ := zcase (xs := xs) h zA0 zA0
  have s0 : zscr 5 xs (zS0 5 xs) := ⟨rfl, fun j _ => rfl⟩
  unfold zl0
  rw [ezL_794]
  rw [e1]
  simp only [zbs]
  rw [e2]
  simp only [zbs, if_true]
  exact zend s2
theorem zq_807 {xs : Nat → Int32} (h : zcK 105 202 []) : zwp (zrun (zev 64) zT_281 807 zl0 [] (zS0 5 xs)) (fun a _ _ => a = 1) := by
  obtain ⟨v, w1, σ1, e1, s1, w2, σ2, e2, s2⟩ := zcase (xs := xs) h zA0 zA0
  have s0 : zscr 5 xs (zS0 5 xs) := ⟨rfl, fun j _ => rfl⟩
  unfold zl0
  rw [ezL_807]
  rw [e1]
  simp only [zbs]
  rw [e2]
  simp only [zbs, if_true]
  exact zend s2
theorem zq_820 {xs : Nat → Int32} (h : zcK 106 203 []) : zwp (zrun (zev 64) zT_281 820 zl0 [] (zS0 5 xs)) (fun a _ _ => a = 1) := by
  obtain ⟨v, w1, σ1, e1, s1, w2, σ2, e2, s2⟩ := zcase (xs := xs) h zA0 zA0
  have s0 : zscr 5 xs (zS0 5 xs) := ⟨rfl, fun j _ => rfl⟩
  unfold zl0
  rw [ezL_820]
  rw [e1]
  simp only [zbs]
  rw [e2]
  simp only [zbs, if_true]
  exact zend s2
theorem zq_833 {xs : Nat → Int32} (h : zcK 110 208 [.inl (xs 1), .inl (xs 2)]) : zwp (zrun (zev 64) zT_281 833 zl0 [] (zS0 5 xs)) (fun a _ _ => a = 1) := by
  obtain ⟨v, w1, σ1, e1, s1, w2, σ2, e2, s2⟩ := zcase (xs := xs) h (zAi (zAi zA0)) (zAi (zAi zA0))
  have s0 : zscr 5 xs (zS0 5 xs) := ⟨rfl, fun j _ => rfl⟩
  unfold zl0
  rw [ezL_833]
  simp only [zgs1 s0, zrs1 s0, zgs2 s0, zrs2 s0]
  rw [e1]
  simp only [zbs, zgs1 s1, zrs1 s1, zgs2 s1, zrs2 s1]
  rw [e2]
  simp only [zbs, if_true]
  exact zend s2
theorem zq_866 {xs : Nat → Int32} (h : zcK 111 209 [.inl (xs 1)]) : zwp (zrun (zev 64) zT_281 866 zl0 [] (zS0 5 xs)) (fun a _ _ => a = 1) := by
  obtain ⟨v, w1, σ1, e1, s1, w2, σ2, e2, s2⟩ := zcase (xs := xs) h (zAi zA0) (zAi zA0)
  have s0 : zscr 5 xs (zS0 5 xs) := ⟨rfl, fun j _ => rfl⟩
  unfold zl0
  rw [ezL_866]
  simp only [zgs1 s0, zrs1 s0]
  rw [e1]
  simp only [zbs, zgs1 s1, zrs1 s1]
  rw [e2]
  simp only [zbs, if_true]
  exact zend s2
theorem zq_889 {xs : Nat → Int32} (h : zcK 112 215 [.inl (xs 1), .inl (xs 2)]) : zwp (zrun (zev 64) zT_281 889 zl0 [] (zS0 5 xs)) (fun a _ _ => a = 1) := by
  obtain ⟨v, w1, σ1, e1, s1, w2, σ2, e2, s2⟩ := zcase (xs := xs) h (zAi (zAi zA0)) (zAi (zAi zA0))
  have s0 : zscr 5 xs (zS0 5 xs) := ⟨rfl, fun j _ => rfl⟩
  unfold zl0
  rw [ezL_889]
  simp only [zgs1 s0, zrs1 s0, zgs2 s0, zrs2 s0]
  rw [e1]
  simp only [zbs, zgs1 s1, zrs1 s1, zgs2 s1, zrs2 s1]
  rw [e2]
  simp only [zbs, if_true]
  exact zend s2
theorem zq_922 {xs : Nat → Int32} (h : zcK 113 216 [.inl (xs 1), .inl (xs 2)]) : zwp (zrun (zev 64) zT_281 922 zl0 [] (zS0 5 xs)) (fun a _ _ => a = 1) := by
  obtain ⟨v, w1, σ1, e1, s1, w2, σ2, e2, s2⟩ := zcase (xs := xs) h (zAi (zAi zA0)) (zAi (zAi zA0))
  have s0 : zscr 5 xs (zS0 5 xs) := ⟨rfl, fun j _ => rfl⟩
  unfold zl0
  rw [ezL_922]
  simp only [zgs1 s0, zrs1 s0, zgs2 s0, zrs2 s0]
  rw [e1]
  simp only [zbs, zgs1 s1, zrs1 s1, zgs2 s1, zrs2 s1]
  rw [e2]
  simp only [zbs, if_true]
  exact zend s2
theorem zq_955 {xs : Nat → Int32} (h : zcK 115 217 [.inl (xs 1), .inl (xs 2)]) : zwp (zrun (zev 64) zT_281 955 zl0 [] (zS0 5 xs)) (fun a _ _ => a = 1) := by
  obtain ⟨v, w1, σ1, e1, s1, w2, σ2, e2, s2⟩ := zcase (xs := xs) h (zAi (zAi zA0)) (zAi (zAi zA0))
  have s0 : zscr 5 xs (zS0 5 xs) := ⟨rfl, fun j _ => rfl⟩
  unfold zl0
  rw [ezL_955]
  simp only [zgs1 s0, zrs1 s0, zgs2 s0, zrs2 s0]
  rw [e1]
  simp only [zbs, zgs1 s1, zrs1 s1, zgs2 s1, zrs2 s1]
  rw [e2]
  simp only [zbs, if_true]
  exact zend s2
theorem zq_988 {xs : Nat → Int32} (h : zcK 116 218 []) : zwp (zrun (zev 64) zT_281 988 zl0 [] (zS0 5 xs)) (fun a _ _ => a = 1) := by
  obtain ⟨v, w1, σ1, e1, s1, w2, σ2, e2, s2⟩ := zcase (xs := xs) h zA0 zA0
  have s0 : zscr 5 xs (zS0 5 xs) := ⟨rfl, fun j _ => rfl⟩
  unfold zl0
  rw [ezL_988]
  rw [e1]
  simp only [zbs]
  rw [e2]
  simp only [zbs, if_true]
  exact zend s2
theorem zq_1001 {xs : Nat → Int32} (h : zcK 117 221 [.inl (xs 1)]) : zwp (zrun (zev 64) zT_281 1001 zl0 [] (zS0 5 xs)) (fun a _ _ => a = 1) := by
  obtain ⟨v, w1, σ1, e1, s1, w2, σ2, e2, s2⟩ := zcase (xs := xs) h (zAi zA0) (zAi zA0)
  have s0 : zscr 5 xs (zS0 5 xs) := ⟨rfl, fun j _ => rfl⟩
  unfold zl0
  rw [ezL_1001]
  simp only [zgs1 s0, zrs1 s0]
  rw [e1]
  simp only [zbs, zgs1 s1, zrs1 s1]
  rw [e2]
  simp only [zbs, if_true]
  exact zend s2
theorem zq_1024 {xs : Nat → Int32} (h : zcK 118 222 []) : zwp (zrun (zev 64) zT_281 1024 zl0 [] (zS0 5 xs)) (fun a _ _ => a = 1) := by
  obtain ⟨v, w1, σ1, e1, s1, w2, σ2, e2, s2⟩ := zcase (xs := xs) h zA0 zA0
  have s0 : zscr 5 xs (zS0 5 xs) := ⟨rfl, fun j _ => rfl⟩
  unfold zl0
  rw [ezL_1024]
  rw [e1]
  simp only [zbs]
  rw [e2]
  simp only [zbs, if_true]
  exact zend s2
theorem zq_1037 {xs : Nat → Int32} (h : zcK 119 223 [.inl (xs 1)]) : zwp (zrun (zev 64) zT_281 1037 zl0 [] (zS0 5 xs)) (fun a _ _ => a = 1) := by
  obtain ⟨v, w1, σ1, e1, s1, w2, σ2, e2, s2⟩ := zcase (xs := xs) h (zAi zA0) (zAi zA0)
  have s0 : zscr 5 xs (zS0 5 xs) := ⟨rfl, fun j _ => rfl⟩
  unfold zl0
  rw [ezL_1037]
  simp only [zgs1 s0, zrs1 s0]
  rw [e1]
  simp only [zbs, zgs1 s1, zrs1 s1]
  rw [e2]
  simp only [zbs, if_true]
  exact zend s2
theorem zq_1060 {xs : Nat → Int32} (h : zcK 120 224 []) : zwp (zrun (zev 64) zT_281 1060 zl0 [] (zS0 5 xs)) (fun a _ _ => a = 1) := by
  obtain ⟨v, w1, σ1, e1, s1, w2, σ2, e2, s2⟩ := zcase (xs := xs) h zA0 zA0
  have s0 : zscr 5 xs (zS0 5 xs) := ⟨rfl, fun j _ => rfl⟩
  unfold zl0
  rw [ezL_1060]
  rw [e1]
  simp only [zbs]
  rw [e2]
  simp only [zbs, if_true]
  exact zend s2
theorem zq_1073 {xs : Nat → Int32} (h : zcK 121 225 [.inl (xs 1)]) : zwp (zrun (zev 64) zT_281 1073 zl0 [] (zS0 5 xs)) (fun a _ _ => a = 1) := by
  obtain ⟨v, w1, σ1, e1, s1, w2, σ2, e2, s2⟩ := zcase (xs := xs) h (zAi zA0) (zAi zA0)
  have s0 : zscr 5 xs (zS0 5 xs) := ⟨rfl, fun j _ => rfl⟩
  unfold zl0
  rw [ezL_1073]
  simp only [zgs1 s0, zrs1 s0]
  rw [e1]
  simp only [zbs, zgs1 s1, zrs1 s1]
  rw [e2]
  simp only [zbs, if_true]
  exact zend s2
theorem zq_1096 {xs : Nat → Int32} (h : zcK 124 226 [.inl (xs 1)]) : zwp (zrun (zev 64) zT_281 1096 zl0 [] (zS0 5 xs)) (fun a _ _ => a = 1) := by
  obtain ⟨v, w1, σ1, e1, s1, w2, σ2, e2, s2⟩ := zcase (xs := xs) h (zAi zA0) (zAi zA0)
  have s0 : zscr 5 xs (zS0 5 xs) := ⟨rfl, fun j _ => rfl⟩
  unfold zl0
  rw [ezL_1096]
  simp only [zgs1 s0, zrs1 s0]
  rw [e1]
  simp only [zbs, zgs1 s1, zrs1 s1]
  rw [e2]
  simp only [zbs, if_true]
  exact zend s2
theorem zq_1119 {xs : Nat → Int32} (h : zcK 125 228 [.inl (xs 1), .inl (xs 2)]) : zwp (zrun (zev 64) zT_281 1119 zl0 [] (zS0 5 xs)) (fun a _ _ => a = 1) := by
  obtain ⟨v, w1, σ1, e1, s1, w2, σ2, e2, s2⟩ := zcase (xs := xs) h (zAi (zAi zA0)) (zAi (zAi zA0))
  have s0 : zscr 5 xs (zS0 5 xs) := ⟨rfl, fun j _ => rfl⟩
  unfold zl0
  rw [ezL_1119]
  simp only [zgs1 s0, zrs1 s0, zgs2 s0, zrs2 s0]
  rw [e1]
  simp only [zbs, zgs1 s1, zrs1 s1, zgs2 s1, zrs2 s1]
  rw [e2]
  simp only [zbs, if_true]
  exact zend s2
theorem zq_1152 {xs : Nat → Int32} (h : zcK 126 229 [.inl (xs 1), .inl (xs 2), .inl (xs 3)]) : zwp (zrun (zev 64) zT_281 1152 zl0 [] (zS0 5 xs)) (fun a _ _ => a = 1) := by
  obtain ⟨v, w1, σ1, e1, s1, w2, σ2, e2, s2⟩ := zcase (xs := xs) h (zAi (zAi (zAi zA0))) (zAi (zAi (zAi zA0)))
  have s0 : zscr 5 xs (zS0 5 xs) := ⟨rfl, fun j _ => rfl⟩
  unfold zl0
  rw [ezL_1152]
  simp only [zgs1 s0, zrs1 s0, zgs2 s0, zrs2 s0, zgs3 s0, zrs3 s0]
  rw [e1]
  simp only [zbs, zgs1 s1, zrs1 s1, zgs2 s1, zrs2 s1, zgs3 s1, zrs3 s1]
  rw [e2]
  simp only [zbs, if_true]
  exact zend s2
theorem zq_1195 {xs : Nat → Int32} (h : zcK 127 230 []) : zwp (zrun (zev 64) zT_281 1195 zl0 [] (zS0 5 xs)) (fun a _ _ => a = 1) := by
  obtain ⟨v, w1, σ1, e1, s1, w2, σ2, e2, s2⟩ := zcase (xs := xs) h zA0 zA0
  have s0 : zscr 5 xs (zS0 5 xs) := ⟨rfl, fun j _ => rfl⟩
  unfold zl0
  rw [ezL_1195]
  rw [e1]
  simp only [zbs]
  rw [e2]
  simp only [zbs, if_true]
  exact zend s2
theorem zq_1208 {xs : Nat → Int32} (h : zcK 128 250 [.inl (xs 1), .inl (xs 2), .inl (xs 3)]) : zwp (zrun (zev 64) zT_281 1208 zl0 [] (zS0 5 xs)) (fun a _ _ => a = 1) := by
  obtain ⟨v, w1, σ1, e1, s1, w2, σ2, e2, s2⟩ := zcase (xs := xs) h (zAi (zAi (zAi zA0))) (zAi (zAi (zAi zA0)))
  have s0 : zscr 5 xs (zS0 5 xs) := ⟨rfl, fun j _ => rfl⟩
  unfold zl0
  rw [ezL_1208]
  simp only [zgs1 s0, zrs1 s0, zgs2 s0, zrs2 s0, zgs3 s0, zrs3 s0]
  rw [e1]
  simp only [zbs, zgs1 s1, zrs1 s1, zgs2 s1, zrs2 s1, zgs3 s1, zrs3 s1]
  rw [e2]
  simp only [zbs, if_true]
  exact zend s2
theorem zq_1251 {xs : Nat → Int32} (h : zcK 129 252 [.inl (xs 1), .inl (xs 2), .inl (xs 3)]) : zwp (zrun (zev 64) zT_281 1251 zl0 [] (zS0 5 xs)) (fun a _ _ => a = 1) := by
  obtain ⟨v, w1, σ1, e1, s1, w2, σ2, e2, s2⟩ := zcase (xs := xs) h (zAi (zAi (zAi zA0))) (zAi (zAi (zAi zA0)))
  have s0 : zscr 5 xs (zS0 5 xs) := ⟨rfl, fun j _ => rfl⟩
  unfold zl0
  rw [ezL_1251]
  simp only [zgs1 s0, zrs1 s0, zgs2 s0, zrs2 s0, zgs3 s0, zrs3 s0]
  rw [e1]
  simp only [zbs, zgs1 s1, zrs1 s1, zgs2 s1, zrs2 s1, zgs3 s1, zrs3 s1]
  rw [e2]
  simp only [zbs, if_true]
  exact zend s2
theorem zq_1294 {xs : Nat → Int32} (h : zcK 130 254 [.inl (xs 1), .inl (xs 2), .inl (xs 3)]) : zwp (zrun (zev 64) zT_281 1294 zl0 [] (zS0 5 xs)) (fun a _ _ => a = 1) := by
  obtain ⟨v, w1, σ1, e1, s1, w2, σ2, e2, s2⟩ := zcase (xs := xs) h (zAi (zAi (zAi zA0))) (zAi (zAi (zAi zA0)))
  have s0 : zscr 5 xs (zS0 5 xs) := ⟨rfl, fun j _ => rfl⟩
  unfold zl0
  rw [ezL_1294]
  simp only [zgs1 s0, zrs1 s0, zgs2 s0, zrs2 s0, zgs3 s0, zrs3 s0]
  rw [e1]
  simp only [zbs, zgs1 s1, zrs1 s1, zgs2 s1, zrs2 s1, zgs3 s1, zrs3 s1]
  rw [e2]
  simp only [zbs, if_true]
  exact zend s2
theorem zq_1337 {xs : Nat → Int32} (h : zcK 131 255 [.inl (xs 1), .inl (xs 2), .inl (xs 3), .inl (xs 4)]) : zwp (zrun (zev 64) zT_281 1337 zl0 [] (zS0 5 xs)) (fun a _ _ => a = 1) := by
  obtain ⟨v, w1, σ1, e1, s1, w2, σ2, e2, s2⟩ := zcase (xs := xs) h (zAi (zAi (zAi (zAi zA0)))) (zAi (zAi (zAi (zAi zA0))))
  have s0 : zscr 5 xs (zS0 5 xs) := ⟨rfl, fun j _ => rfl⟩
  unfold zl0
  rw [ezL_1337]
  simp only [zgs1 s0, zrs1 s0, zgs2 s0, zrs2 s0, zgs3 s0, zrs3 s0, zgs4 s0, zrs4 s0]
  rw [e1]
  simp only [zbs, zgs1 s1, zrs1 s1, zgs2 s1, zrs2 s1, zgs3 s1, zrs3 s1, zgs4 s1, zrs4 s1]
  rw [e2]
  simp only [zbs, if_true]
  exact zend s2
theorem zq_1390 {xs : Nat → Int32} (h : zcK 132 256 [.inl (xs 1), .inl (xs 2), .inl (xs 3)]) : zwp (zrun (zev 64) zT_281 1390 zl0 [] (zS0 5 xs)) (fun a _ _ => a = 1) := by
  obtain ⟨v, w1, σ1, e1, s1, w2, σ2, e2, s2⟩ := zcase (xs := xs) h (zAi (zAi (zAi zA0))) (zAi (zAi (zAi zA0)))
  have s0 : zscr 5 xs (zS0 5 xs) := ⟨rfl, fun j _ => rfl⟩
  unfold zl0
  rw [ezL_1390]
  simp only [zgs1 s0, zrs1 s0, zgs2 s0, zrs2 s0, zgs3 s0, zrs3 s0]
  rw [e1]
  simp only [zbs, zgs1 s1, zrs1 s1, zgs2 s1, zrs2 s1, zgs3 s1, zrs3 s1]
  rw [e2]
  simp only [zbs, if_true]
  exact zend s2
theorem zq_1433 {xs : Nat → Int32} (h : zcK 133 258 [.inl (xs 1), .inl (xs 2)]) : zwp (zrun (zev 64) zT_281 1433 zl0 [] (zS0 5 xs)) (fun a _ _ => a = 1) := by
  obtain ⟨v, w1, σ1, e1, s1, w2, σ2, e2, s2⟩ := zcase (xs := xs) h (zAi (zAi zA0)) (zAi (zAi zA0))
  have s0 : zscr 5 xs (zS0 5 xs) := ⟨rfl, fun j _ => rfl⟩
  unfold zl0
  rw [ezL_1433]
  simp only [zgs1 s0, zrs1 s0, zgs2 s0, zrs2 s0]
  rw [e1]
  simp only [zbs, zgs1 s1, zrs1 s1, zgs2 s1, zrs2 s1]
  rw [e2]
  simp only [zbs, if_true]
  exact zend s2
theorem zq_1466 {xs : Nat → Int32} (h : zcK 134 265 [.inl (xs 1), .inl (xs 2), .inl (xs 3)]) : zwp (zrun (zev 64) zT_281 1466 zl0 [] (zS0 5 xs)) (fun a _ _ => a = 1) := by
  obtain ⟨v, w1, σ1, e1, s1, w2, σ2, e2, s2⟩ := zcase (xs := xs) h (zAi (zAi (zAi zA0))) (zAi (zAi (zAi zA0)))
  have s0 : zscr 5 xs (zS0 5 xs) := ⟨rfl, fun j _ => rfl⟩
  unfold zl0
  rw [ezL_1466]
  simp only [zgs1 s0, zrs1 s0, zgs2 s0, zrs2 s0, zgs3 s0, zrs3 s0]
  rw [e1]
  simp only [zbs, zgs1 s1, zrs1 s1, zgs2 s1, zrs2 s1, zgs3 s1, zrs3 s1]
  rw [e2]
  simp only [zbs, if_true]
  exact zend s2
theorem zq_1509 {xs : Nat → Int32} (h : zcK 135 267 [.inl (xs 1)]) : zwp (zrun (zev 64) zT_281 1509 zl0 [] (zS0 5 xs)) (fun a _ _ => a = 1) := by
  obtain ⟨v, w1, σ1, e1, s1, w2, σ2, e2, s2⟩ := zcase (xs := xs) h (zAi zA0) (zAi zA0)
  have s0 : zscr 5 xs (zS0 5 xs) := ⟨rfl, fun j _ => rfl⟩
  unfold zl0
  rw [ezL_1509]
  simp only [zgs1 s0, zrs1 s0]
  rw [e1]
  simp only [zbs, zgs1 s1, zrs1 s1]
  rw [e2]
  simp only [zbs, if_true]
  exact zend s2
theorem zq_1532 {xs : Nat → Int32} (h : zcK 136 268 [.inl (xs 1)]) : zwp (zrun (zev 64) zT_281 1532 zl0 [] (zS0 5 xs)) (fun a _ _ => a = 1) := by
  obtain ⟨v, w1, σ1, e1, s1, w2, σ2, e2, s2⟩ := zcase (xs := xs) h (zAi zA0) (zAi zA0)
  have s0 : zscr 5 xs (zS0 5 xs) := ⟨rfl, fun j _ => rfl⟩
  unfold zl0
  rw [ezL_1532]
  simp only [zgs1 s0, zrs1 s0]
  rw [e1]
  simp only [zbs, zgs1 s1, zrs1 s1]
  rw [e2]
  simp only [zbs, if_true]
  exact zend s2
theorem zq_1555 {xs : Nat → Int32} (h : zcK 139 269 []) : zwp (zrun (zev 64) zT_281 1555 zl0 [] (zS0 5 xs)) (fun a _ _ => a = 1) := by
  obtain ⟨v, w1, σ1, e1, s1, w2, σ2, e2, s2⟩ := zcase (xs := xs) h zA0 zA0
  have s0 : zscr 5 xs (zS0 5 xs) := ⟨rfl, fun j _ => rfl⟩
  unfold zl0
  rw [ezL_1555]
  rw [e1]
  simp only [zbs]
  rw [e2]
  simp only [zbs, if_true]
  exact zend s2
theorem zq_1568 {xs : Nat → Int32} (h : zcK 140 270 []) : zwp (zrun (zev 64) zT_281 1568 zl0 [] (zS0 5 xs)) (fun a _ _ => a = 1) := by
  obtain ⟨v, w1, σ1, e1, s1, w2, σ2, e2, s2⟩ := zcase (xs := xs) h zA0 zA0
  have s0 : zscr 5 xs (zS0 5 xs) := ⟨rfl, fun j _ => rfl⟩
  unfold zl0
  rw [ezL_1568]
  rw [e1]
  simp only [zbs]
  rw [e2]
  simp only [zbs, if_true]
  exact zend s2
theorem zRc {τ : zM} (h : zAg zBc zQ τ) (g k i : Nat) (hk : zBc k = true) : τ.1 g k i = zQ.1 g k i := (h.1 g k i hk).1
theorem zRmm {τ : zM} (h : zAg zBm zQ τ) (g k i : Nat) (hk : zBm k = true) : τ.1 g k i = zQ.1 g k i := (h.1 g k i hk).1
theorem znr {p : Int32} {c : Int32} (h : c = 0) : ¬ zrg 0 p (c.toInt - 1) := fun q => by
  subst h
  have z : (0 : Int32).toInt = 0 := by decide
  have h1 := q.1
  have h2 := q.2
  rw [z] at h2
  omega
theorem F13_0 {d g : Nat} {p : Int32} {σ : zM} (h : σ.1 g 1 0 = 0) : zev (d + 1) 13 [.inr (.inr (g, 1)), .inl p] σ = some (0, 0, σ) := by rw [F13, if_neg (znr h)]
theorem F37_0 {d g : Nat} {p : Int32} {σ : zM} (h : σ.1 g 15 0 = 0) : zev (d + 1) 37 [.inr (.inr (g, 15)), .inl p] σ = some (0, 0, σ) := by rw [F37, if_neg (znr h)]
theorem F150_0 {d : Nat} {p : Int32} {σ : zM} (h : σ.1 0 61 0 = 0) : zev (d + 2) 150 [.inr (.inr (0, 60)), .inl p] σ = some (0, 0, σ) := by rw [F150 (by rw [h]; decide), if_neg (znr h)]
theorem F151_0 {d : Nat} {p : Int32} {σ : zM} (h : σ.1 0 61 2 = 0) : zev (d + 2) 151 [.inr (.inr (0, 60)), .inl p] σ = some (0, 0, σ) := by rw [F151 (by rw [h]; decide), if_neg (znr h)]
theorem F45_0 {d : Nat} {p q : Int32} {σ : zM} (h : σ.1 0 38 0 = 0) : zev (d + 1) 45 [.inr (.inr (0, 38)), .inl p, .inl q] σ = some (0, 0, σ) := by
  rw [ez_45, h]
  show (if p < 0 then _ else _) = _
  by_cases h1 : p < 0
  · rw [if_pos h1, zg30]
  · rw [if_neg h1, if_neg h1, zg30]
theorem F149_n {d : Nat} {p : Int32} {c : Int32} {σ : zM} (h : c = 0) : zev (d + 1) 149 [.inr (.inl (Int32.toInt64 p)), .inr (.inl 0), .inr (.inl (Int32.toInt64 (c - 1)))] σ = some (0, 0, σ) := by
  rw [F149, if_neg]
  intro q
  subst h
  have z : (Int32.toInt64 (0 - 1)).toInt = -1 := by decide
  have z2 : (0 : Int64).toInt = 0 := by decide
  have h1 := q.1
  have h2 := q.2
  rw [z] at h2
  rw [z2] at h1
  omega
theorem F227_0 {d : Nat} {p q : Int32} {σ : zM} (h : σ.1 0 60 16 = 0) : zev (d + 2) 227 [.inr (.inr (0, 60)), .inl p, .inl q] σ = some (0, 0, σ) := by
  rw [ez_227]
  show (Option.bind (zev (d + 1) 149 _ σ) _) = _
  rw [F149_n h, zbs, if_pos rfl, zg30]
theorem F137_0 {d : Nat} {p : Int32} {σ : zM} (hp : zrg 0 p 3) (h : σ.1 0 46 (Int32.toNatClampNeg p) = 0) : zev (d + 2) 137 [.inr (.inr (0, 30)), .inl p] σ = some (-9, 0, σ) := by
  rw [ez_137]
  show (Option.bind (zev (d + 1) 23 _ σ) _) = _
  rw [ez_23]
  show (Option.bind (zgd _ _) _) = _
  rw [zgd_t (zin_rg hp), h, if_neg (by decide), zg30, zbs]
  rfl
theorem F24_0 {d : Nat} {p : Int32} {σ : zM} (hp : zrg 0 p 3) (h : σ.1 0 46 (Int32.toNatClampNeg p) = 0) : zev (d + 1) 24 [.inr (.inr (0, 41)), .inl p] σ = some (0, 0, σ) := by
  rw [ez_24]
  show (zgd _ _) = _
  rw [zgd_t (zin_rg hp), h, if_neg (by decide), zg30]
theorem F257_0 {d : Nat} {p : Int32} {σ : zM} (h : zrg 0 p 3 → σ.1 0 76 (Int32.toNatClampNeg p) = 0) : zev (d + 3) 257 [.inr (.inr (0, 60)), .inl p] σ = some (-1, 0, σ) := by
  rw [ez_257]
  show (Option.bind (zev (d + 2) 249 _ σ) _) = _
  rw [F249, zbs]
  by_cases q : zrg 0 p 3
  · rw [if_pos q, if_neg (show ¬ (1 : Int32) = 0 by decide), zgd_t (zin_rg q), h q, if_neg (show ¬ (0 : Int32) = 1 by decide)]
  · rw [if_neg q, if_pos rfl]
theorem zp_85 (p0 p1 : Int32) : zcK 85 173 [.inl p0, .inl p1] := by
  refine ⟨-1, fun τ hτ => ?_, fun τ hτ => ?_⟩
  · have c : τ.1 0 1 0 = 0 := zRc hτ 0 1 0 (by decide)
    rw [ez_85]
    simp only [F13_0 c, zbs, if_true]
    exact ⟨_, _, _, rfl, rfl⟩
  · have c : τ.1 0 61 0 = 0 := zRmm hτ 0 61 0 (by decide)
    rw [ez_173]
    simp only [F150_0 c, zbs, if_true]
    exact ⟨_, _, _, rfl, rfl⟩
theorem zp_86 (p0 p1 p2 : Int32) : zcK 86 174 [.inl p0, .inl p1, .inl p2] := by
  refine ⟨-1, fun τ hτ => ?_, fun τ hτ => ?_⟩
  · have c : τ.1 0 1 0 = 0 := zRc hτ 0 1 0 (by decide)
    rw [ez_86]
    simp only [F13_0 c, zbs, if_true]
    exact ⟨_, _, _, rfl, rfl⟩
  · have c : τ.1 0 61 0 = 0 := zRmm hτ 0 61 0 (by decide)
    rw [ez_174]
    simp only [F150_0 c, zbs, if_true]
    exact ⟨_, _, _, rfl, rfl⟩
theorem zp_87 (p0 p1 : Int32) : zcK 87 175 [.inl p0, .inl p1] := by
  refine ⟨-1, fun τ hτ => ?_, fun τ hτ => ?_⟩
  · have c : τ.1 0 1 0 = 0 := zRc hτ 0 1 0 (by decide)
    rw [ez_87]
    simp only [F13_0 c, zbs, if_true]
    exact ⟨_, _, _, rfl, rfl⟩
  · have c : τ.1 0 61 0 = 0 := zRmm hτ 0 61 0 (by decide)
    rw [ez_175]
    simp only [F150_0 c, zbs, if_true]
    exact ⟨_, _, _, rfl, rfl⟩
theorem zp_101 (p0 : Int32) : zcK 101 197 [.inl p0] := by
  refine ⟨-1, fun τ hτ => ?_, fun τ hτ => ?_⟩
  · have c : τ.1 0 1 0 = 0 := zRc hτ 0 1 0 (by decide)
    rw [ez_101]
    simp only [F13_0 c, zbs, if_true]
    exact ⟨_, _, _, rfl, rfl⟩
  · have c : τ.1 0 61 0 = 0 := zRmm hτ 0 61 0 (by decide)
    rw [ez_197]
    simp only [F150_0 c, zbs, if_true]
    exact ⟨_, _, _, rfl, rfl⟩
theorem zp_115 (p0 p1 : Int32) : zcK 115 217 [.inl p0, .inl p1] := by
  refine ⟨-1, fun τ hτ => ?_, fun τ hτ => ?_⟩
  · have c : τ.1 0 1 0 = 0 := zRc hτ 0 1 0 (by decide)
    rw [ez_115]
    simp only [F13_0 c, zbs, if_true]
    exact ⟨_, _, _, rfl, rfl⟩
  · have c : τ.1 0 61 0 = 0 := zRmm hτ 0 61 0 (by decide)
    rw [ez_217]
    simp only [F150_0 c, zbs, if_true]
    exact ⟨_, _, _, rfl, rfl⟩
theorem zp_124 (p0 : Int32) : zcK 124 226 [.inl p0] := by
  refine ⟨-1, fun τ hτ => ?_, fun τ hτ => ?_⟩
  · have c : τ.1 0 1 0 = 0 := zRc hτ 0 1 0 (by decide)
    rw [ez_124]
    simp only [F13_0 c, zbs, if_true]
    exact ⟨_, _, _, rfl, rfl⟩
  · have c : τ.1 0 61 0 = 0 := zRmm hτ 0 61 0 (by decide)
    rw [ez_226]
    simp only [F150_0 c, zbs, if_true]
    exact ⟨_, _, _, rfl, rfl⟩
theorem zp_92 (p0 p1 : Int32) : zcK 92 183 [.inl p0, .inl p1] := by
  refine ⟨-1, fun τ hτ => ?_, fun τ hτ => ?_⟩
  · have c : τ.1 0 15 0 = 0 := zRc hτ 0 15 0 (by decide)
    rw [ez_92]
    simp only [F37_0 c, zbs, if_true]
    exact ⟨_, _, _, rfl, rfl⟩
  · have c : τ.1 0 61 2 = 0 := zRmm hτ 0 61 2 (by decide)
    rw [ez_183]
    simp only [F151_0 c, zbs, if_true]
    exact ⟨_, _, _, rfl, rfl⟩
theorem zp_93 (p0 p1 : Int32) : zcK 93 184 [.inl p0, .inl p1] := by
  refine ⟨-1, fun τ hτ => ?_, fun τ hτ => ?_⟩
  · have c : τ.1 0 15 0 = 0 := zRc hτ 0 15 0 (by decide)
    rw [ez_93]
    simp only [F37_0 c, zbs, if_true]
    exact ⟨_, _, _, rfl, rfl⟩
  · have c : τ.1 0 61 2 = 0 := zRmm hτ 0 61 2 (by decide)
    rw [ez_184]
    simp only [F151_0 c, zbs, if_true]
    exact ⟨_, _, _, rfl, rfl⟩
theorem zp_94 (p0 : Int32) : zcK 94 185 [.inl p0] := by
  refine ⟨-1, fun τ hτ => ?_, fun τ hτ => ?_⟩
  · have c : τ.1 0 15 0 = 0 := zRc hτ 0 15 0 (by decide)
    rw [ez_94]
    simp only [F37_0 c, zbs, if_true]
    exact ⟨_, _, _, rfl, rfl⟩
  · have c : τ.1 0 61 2 = 0 := zRmm hτ 0 61 2 (by decide)
    rw [ez_185]
    simp only [F151_0 c, zbs, if_true]
    exact ⟨_, _, _, rfl, rfl⟩
theorem zp_102 (p0 : Int32) : zcK 102 198 [.inl p0] := by
  refine ⟨-1, fun τ hτ => ?_, fun τ hτ => ?_⟩
  · have c : τ.1 0 15 0 = 0 := zRc hτ 0 15 0 (by decide)
    rw [ez_102]
    simp only [F37_0 c, zbs, if_true]
    exact ⟨_, _, _, rfl, rfl⟩
  · have c : τ.1 0 61 2 = 0 := zRmm hτ 0 61 2 (by decide)
    rw [ez_198]
    simp only [F151_0 c, zbs, if_true]
    exact ⟨_, _, _, rfl, rfl⟩
theorem zp_103 (p0 : Int32) : zcK 103 199 [.inl p0] := by
  refine ⟨-1, fun τ hτ => ?_, fun τ hτ => ?_⟩
  · have c : τ.1 0 15 0 = 0 := zRc hτ 0 15 0 (by decide)
    rw [ez_103]
    simp only [F37_0 c, zbs, if_true]
    exact ⟨_, _, _, rfl, rfl⟩
  · have c : τ.1 0 61 2 = 0 := zRmm hτ 0 61 2 (by decide)
    rw [ez_199]
    simp only [F151_0 c, zbs, if_true]
    exact ⟨_, _, _, rfl, rfl⟩
theorem zp_131 (p0 p1 p2 p3 : Int32) : zcK 131 255 [.inl p0, .inl p1, .inl p2, .inl p3] := by
  refine ⟨-1, fun τ hτ => ?_, fun τ hτ => ?_⟩
  · have c : τ.1 0 15 0 = 0 := zRc hτ 0 15 0 (by decide)
    rw [ez_131]
    simp only [F37_0 c, zbs, if_true]
    exact ⟨_, _, _, rfl, rfl⟩
  · have c : τ.1 0 61 2 = 0 := zRmm hτ 0 61 2 (by decide)
    rw [ez_255]
    simp only [F151_0 c, zbs, if_true]
    exact ⟨_, _, _, rfl, rfl⟩
theorem zp_125 (p0 p1 : Int32) : zcK 125 228 [.inl p0, .inl p1] := by
  refine ⟨-9, fun τ hτ => ?_, fun τ hτ => ?_⟩
  · have c : τ.1 0 38 0 = 0 := zRc hτ 0 38 0 (by decide)
    rw [ez_125]
    simp only [F45_0 c, zbs, if_true]
    exact ⟨_, _, _, rfl, rfl⟩
  · have c : τ.1 0 60 16 = 0 := zRmm hτ 0 60 16 (by decide)
    rw [ez_228]
    simp only [F227_0 c, zbs, if_true]
    exact ⟨_, _, _, rfl, rfl⟩
theorem zp_126 (p0 p1 p2 : Int32) : zcK 126 229 [.inl p0, .inl p1, .inl p2] := by
  refine ⟨-9, fun τ hτ => ?_, fun τ hτ => ?_⟩
  · have c : τ.1 0 38 0 = 0 := zRc hτ 0 38 0 (by decide)
    rw [ez_126]
    simp only [F45_0 c, zbs, if_true]
    exact ⟨_, _, _, rfl, rfl⟩
  · have c : τ.1 0 60 16 = 0 := zRmm hτ 0 60 16 (by decide)
    rw [ez_229]
    simp only [F227_0 c, zbs, if_true]
    exact ⟨_, _, _, rfl, rfl⟩
theorem zpc_90 : zqc 9000 64 90 [.inr (.inr (0, 30))] (0) = true := by decide +kernel
theorem zpm_90 : zqc 9000 64 248 [.inr (.inr (0, 60))] (0) = true := by decide +kernel
theorem zp_90 : zcK 90 248 [] := by
  exact zcq zpc_90 zpm_90 zA0 zA0
theorem zpc_95 : zqc 9000 64 95 [.inr (.inr (0, 30))] (0) = true := by decide +kernel
theorem zpm_95 : zqc 9000 64 186 [.inr (.inr (0, 60))] (0) = true := by decide +kernel
theorem zp_95 : zcK 95 186 [] := by
  exact zcq zpc_95 zpm_95 zA0 zA0
theorem zpc_96 : zqc 9000 64 96 [.inr (.inr (0, 30))] (-3) = true := by decide +kernel
theorem zpm_96 : zqc 9000 64 188 [.inr (.inr (0, 60))] (-3) = true := by decide +kernel
theorem zp_96 : zcK 96 188 [] := by
  exact zcq zpc_96 zpm_96 zA0 zA0
theorem zpc_97 : zqc 9000 64 97 [.inr (.inr (0, 30))] (0) = true := by decide +kernel
theorem zpm_97 : zqc 9000 64 191 [.inr (.inr (0, 60))] (0) = true := by decide +kernel
theorem zp_97 : zcK 97 191 [] := by
  exact zcq zpc_97 zpm_97 zA0 zA0
theorem zpc_98 : zqc 9000 64 98 [.inr (.inr (0, 30))] (0) = true := by decide +kernel
theorem zpm_98 : zqc 9000 64 192 [.inr (.inr (0, 60))] (0) = true := by decide +kernel
theorem zp_98 : zcK 98 192 [] := by
  exact zcq zpc_98 zpm_98 zA0 zA0
theorem zpc_100 : zqc 9000 64 100 [.inr (.inr (0, 30))] (2) = true := by decide +kernel
theorem zpm_100 : zqc 9000 64 195 [.inr (.inr (0, 60))] (2) = true := by decide +kernel
theorem zp_100 : zcK 100 195 [] := by
  exact zcq zpc_100 zpm_100 zA0 zA0
theorem zpc_104 : zqc 9000 64 104 [.inr (.inr (0, 30))] (-3) = true := by decide +kernel
theorem zpm_104 : zqc 9000 64 200 [.inr (.inr (0, 60))] (-3) = true := by decide +kernel
theorem zp_104 : zcK 104 200 [] := by
  exact zcq zpc_104 zpm_104 zA0 zA0
theorem zpc_105 : zqc 9000 64 105 [.inr (.inr (0, 30))] (-3) = true := by decide +kernel
theorem zpm_105 : zqc 9000 64 202 [.inr (.inr (0, 60))] (-3) = true := by decide +kernel
theorem zp_105 : zcK 105 202 [] := by
  exact zcq zpc_105 zpm_105 zA0 zA0
theorem zpc_106 : zqc 9000 64 106 [.inr (.inr (0, 30))] (0) = true := by decide +kernel
theorem zpm_106 : zqc 9000 64 203 [.inr (.inr (0, 60))] (0) = true := by decide +kernel
theorem zp_106 : zcK 106 203 [] := by
  exact zcq zpc_106 zpm_106 zA0 zA0
theorem zpc_116 : zqc 9000 64 116 [.inr (.inr (0, 30))] (0) = true := by decide +kernel
theorem zpm_116 : zqc 9000 64 218 [.inr (.inr (0, 60))] (0) = true := by decide +kernel
theorem zp_116 : zcK 116 218 [] := by
  exact zcq zpc_116 zpm_116 zA0 zA0
theorem zpc_118 : zqc 9000 64 118 [.inr (.inr (0, 30))] (-3) = true := by decide +kernel
theorem zpm_118 : zqc 9000 64 222 [.inr (.inr (0, 60))] (-3) = true := by decide +kernel
theorem zp_118 : zcK 118 222 [] := by
  exact zcq zpc_118 zpm_118 zA0 zA0
theorem zpc_120 : zqc 9000 64 120 [.inr (.inr (0, 30))] (8) = true := by decide +kernel
theorem zpm_120 : zqc 9000 64 224 [.inr (.inr (0, 60))] (8) = true := by decide +kernel
theorem zp_120 : zcK 120 224 [] := by
  exact zcq zpc_120 zpm_120 zA0 zA0
theorem zpc_127 : zqc 9000 64 127 [.inr (.inr (0, 30))] (0) = true := by decide +kernel
theorem zpm_127 : zqc 9000 64 230 [.inr (.inr (0, 60))] (0) = true := by decide +kernel
theorem zp_127 : zcK 127 230 [] := by
  exact zcq zpc_127 zpm_127 zA0 zA0
theorem zpc_139 : zqc 9000 64 139 [.inr (.inr (0, 30))] (1) = true := by decide +kernel
theorem zpm_139 : zqc 9000 64 269 [.inr (.inr (0, 60))] (1) = true := by decide +kernel
theorem zp_139 : zcK 139 269 [] := by
  exact zcq zpc_139 zpm_139 zA0 zA0
theorem zpc_140 : zqc 9000 64 140 [.inr (.inr (0, 30))] (-3) = true := by decide +kernel
theorem zpm_140 : zqc 9000 64 270 [.inr (.inr (0, 60))] (-3) = true := by decide +kernel
theorem zp_140 : zcK 140 270 [] := by
  exact zcq zpc_140 zpm_140 zA0 zA0
