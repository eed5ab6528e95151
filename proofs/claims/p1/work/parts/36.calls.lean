/-! weather, change, graft, boughOf, sit, down, personOf -/
theorem zx_88 {x : zXx} (w : WX x) (a v : Int) (ha : zrn a) (hv : zrn v) : zCall 88 176 [.inl (iI a), .inl (iI v)] x := by
  have r1 : ∀ {σ : zM}, zev 63 141 [.inl (iI a), .inl 0, .inl 1] σ = some (zB (decide (0 ≤ a ∧ a ≤ 1)), 0, σ) := zc141 (l := 0) (h := 1) ha (by decide) (by decide)
  have r2 : ∀ {σ : zM}, zev 63 141 [.inl (iI v), .inl 0, .inl 9] σ = some (zB (decide (0 ≤ v ∧ v ≤ 9)), 0, σ) := zc141 (l := 0) (h := 9) hv (by decide) (by decide)
  have m1 : ∀ {σ : zM}, zev 63 149 [.inr (.inl (Int32.toInt64 (iI a))), .inr (.inl 0), .inr (.inl 1)] σ = some (zB (decide (0 ≤ a ∧ a ≤ 1)), 0, σ) := zm149k (l := 0) (h := 1) ha (by decide) (by decide)
  have m2 : ∀ {σ : zM}, zev 63 149 [.inr (.inl (Int32.toInt64 (iI v))), .inr (.inl 0), .inr (.inl 9)] σ = some (zB (decide (0 ≤ v ∧ v ≤ 9)), 0, σ) := zm149k (l := 0) (h := 9) hv (by decide) (by decide)
  by_cases q1 : 0 ≤ a ∧ a ≤ 1
  · by_cases q2 : 0 ≤ v ∧ v ≤ 9
    · obtain ⟨n, rfl⟩ := zint q1.1
      have hn : n = 0 ∨ n = 1 := by omega
      refine zCs (zup x.1 (4 + n) v) (iI (x.1 (4 + n))) w (wA_wt w.1 (by omega) q2) (wK_c w.2.2.2.2.2.2.1 w.1.1 (zup_n (by omega)) (fun i _ _ _ => zup_n (by omega))) (fun σ h => ?_) (fun σ h => ?_)
      · have h2 := cA_wt (i := 4 + n) (v := v) h.1 w.1 (by omega)
        rw [ez_88]
        simp only [r1, r2, zbs, zBi, decide_eq_true q1, decide_eq_true q2, cond_true]
        rcases hn with rfl | rfl
        · rw [if_pos (show iI ((0 : Nat) : Int) = 0 from rfl), ez_88_48, if_pos (show iI ((0 : Nat) : Int) = 0 from rfl), h.1.2.2.1.1]
          exact ⟨_, rfl, zFr_w (by omega), h2⟩
        · rw [if_neg (by decide), ez_88_48, if_neg (by decide), h.1.2.2.1.2]
          exact ⟨_, rfl, zFr_w (by omega), h2⟩
      · have i0 : (4 : Int32) + iI n = iI ((4 + n : Nat) : Int) := by
          show iI 4 + iI n = _
          rw [iI_add]; congr 1
        rw [ez_176]
        simp only [m1, m2, zbs, zBi, decide_eq_true q1, decide_eq_true q2, cond_true, i0, zgd_t (iI_ink (z := ((4 + n : Nat) : Int)) (k := 4 + n) rfl (show 4 + n < 320 by omega) (by decide)), iI_Nn (show 4 + n ≤ 2147483647 by omega), h.1 (4 + n) (by omega)]
        exact ⟨_, rfl, zFr_w (by omega), mS_up h.1⟩
    · refine zCq (-1) w (fun σ h => ?_) (fun σ h => ?_)
      · rw [ez_88]
        simp only [r1, r2, zbs, zBi, decide_eq_true q1, decide_eq_false q2, cond_true, cond_false]
        exact ⟨σ, rfl, zFr_r σ⟩
      · rw [ez_176]
        simp only [m1, m2, zbs, zBi, decide_eq_true q1, decide_eq_false q2, cond_true, cond_false]
        exact ⟨σ, rfl, zFr_r σ, h.1⟩
  · refine zCq (-1) w (fun σ h => ?_) (fun σ h => ?_)
    · rw [ez_88]
      simp only [r1, zbs, zBi, decide_eq_false q1, cond_false]
      exact ⟨σ, rfl, zFr_r σ⟩
    · rw [ez_176]
      simp only [m1, zbs, zBi, decide_eq_false q1, cond_false]
      exact ⟨σ, rfl, zFr_r σ, h.1⟩
theorem zm159 {d : Nat} {a v : Int} {σ : zM} (ha : zrn a) (hv : zrn v) : zev (d + 2) 159 [.inl (iI a), .inl (iI v)] σ = some (zB (decide ((a = 2 ∧ 1 ≤ v ∧ v ≤ 9) ∨ (a = 3 ∧ 1 ≤ v ∧ v ≤ 999))), 0, σ) := by
  rw [F159]
  have e2 : (iI a = 2) = (a = 2) := iI_eq (b := 2) ha (by decide)
  have e3 : (iI a = 3) = (a = 3) := iI_eq (b := 3) ha (by decide)
  have hc : (iI a = 2 ∧ zrg 1 (iI v) 9 ∨ iI a = 3 ∧ zrg 1 (iI v) 999) = ((a = 2 ∧ 1 ≤ v ∧ v ≤ 9) ∨ (a = 3 ∧ 1 ≤ v ∧ v ≤ 999)) := by
    rw [e2, e3]
    show (a = 2 ∧ (1 ≤ (iI v).toInt ∧ (iI v).toInt ≤ 9) ∨ a = 3 ∧ (1 ≤ (iI v).toInt ∧ (iI v).toInt ≤ 999)) = _
    rw [t_iI hv]
  simp only [hc]
  by_cases q : (a = 2 ∧ 1 ≤ v ∧ v ≤ 9) ∨ (a = 3 ∧ 1 ≤ v ∧ v ≤ 999)
  · rw [if_pos q, decide_eq_true q]; rfl
  · rw [if_neg q, decide_eq_false q]; rfl
theorem zc147_2 {d g b : Nat} {v : Int32} {σ : zM} (hb : b < 9) : zev (d + 1) 147 [.inr (.inr (g, 2)), .inl (iI b), .inl v] σ = some (σ.1 g 2 b, 0, zwI σ g 2 b v) := by
  rw [ez_147k2]
  simp only [zgd_t (iI_ink (z := b) (k := b) rfl hb (by decide)), iI_Nn (show b ≤ 2147483647 by omega)]
theorem zc147_4 {d g b : Nat} {v : Int32} {σ : zM} (hb : b < 9) : zev (d + 1) 147 [.inr (.inr (g, 4)), .inl (iI b), .inl v] σ = some (σ.1 g 4 b, 0, zwI σ g 4 b v) := by
  rw [ez_147k4]
  simp only [zgd_t (iI_ink (z := b) (k := b) rfl hb (by decide)), iI_Nn (show b ≤ 2147483647 by omega)]
theorem zc147_5 {d g b : Nat} {v : Int32} {σ : zM} (hb : b < 9) : zev (d + 1) 147 [.inr (.inr (g, 5)), .inl (iI b), .inl v] σ = some (σ.1 g 5 b, 0, zwI σ g 5 b v) := by
  rw [ez_147k5]
  simp only [zgd_t (iI_ink (z := b) (k := b) rfl hb (by decide)), iI_Nn (show b ≤ 2147483647 by omega)]
theorem zc147_18 {d g b : Nat} {v : Int32} {σ : zM} (hb : b < 8) : zev (d + 1) 147 [.inr (.inr (g, 18)), .inl (iI b), .inl v] σ = some (σ.1 g 18 b, 0, zwI σ g 18 b v) := by
  rw [ez_147k18]
  simp only [zgd_t (iI_ink (z := b) (k := b) rfl hb (by decide)), iI_Nn (show b ≤ 2147483647 by omega)]
theorem zx_86 {x : zXx} (w : WX x) (b a v : Int) (hb : zrn b) (ha : zrn a) (hv : zrn v) : zCall 86 174 [.inl (iI b), .inl (iI a), .inl (iI v)] x := by
  have b0 := w.1.1.1
  have b1 := w.1.1.2.1
  have r2 : ∀ {σ : zM}, zev 63 141 [.inl (iI v), .inl 1, .inl 9] σ = some (zB (decide (1 ≤ v ∧ v ≤ 9)), 0, σ) := zc141 (l := 1) (h := 9) hv (by decide) (by decide)
  have r3 : ∀ {σ : zM}, zev 63 141 [.inl (iI v), .inl 1, .inl 999] σ = some (zB (decide (1 ≤ v ∧ v ≤ 999)), 0, σ) := zc141 (l := 1) (h := 999) hv (by decide) (by decide)
  have e2 : (iI a = 2) = (a = 2) := iI_eq (b := 2) ha (by decide)
  have e3 : (iI a = 3) = (a = 3) := iI_eq (b := 3) ha (by decide)
  by_cases q1 : 0 ≤ b ∧ b < x.1 0
  case neg =>
    refine zCq (-1) w (fun σ h => ?_) (fun σ h => ?_)
    · rw [ez_86]
      simp only [zc13 h.1.1.1 ⟨b0, b1⟩ hb, zbs, zBi, decide_eq_false q1, cond_false]
      exact ⟨σ, rfl, zFr_r σ⟩
    · rw [ez_174]
      simp only [zm150 (d := 61) h.1 ⟨b0, b1⟩ hb, zbs, zBi, decide_eq_false q1, cond_false]
      exact ⟨σ, rfl, zFr_r σ, h.1⟩
  case pos =>
    obtain ⟨n, rfl⟩ := zint q1.1
    have hn : n < (x.1 0).toNat := by omega
    by_cases q2 : (a = 2 ∧ 1 ≤ v ∧ v ≤ 9) ∨ (a = 3 ∧ 1 ≤ v ∧ v ≤ 999)
    · obtain ⟨m, rfl⟩ := zint (show 0 ≤ a by omega)
      have hm : (m = 2 ∧ 1 ≤ v ∧ v ≤ 9) ∨ (m = 3 ∧ 1 ≤ v ∧ v ≤ 999) := by omega
      refine zCs (zup x.1 (7 + 5 * n + m) v) (iI (x.1 (7 + 5 * n + m))) w (wA_up w.1 hn (by omega)) (wK_c w.2.2.2.2.2.2.1 w.1.1 (zup_n (by omega)) (fun i _ _ _ => zup_n (by omega))) (fun σ h => ?_) (fun σ h => ?_)
      · have h2 := cA_up (b := n) (w := m) (v := v) h.1 w.1 hn (by omega)
        rw [ez_86]
        simp only [zc13 h.1.1.1 ⟨b0, b1⟩ hb, zbs, zBi, decide_eq_true q1, cond_true, e2]
        rcases hm with ⟨rfl, hm⟩ | ⟨rfl, hm⟩
        · rw [if_pos (by decide), r2, decide_eq_true hm]
          simp only [zbs, zBi, cond_true, zc147_4 (d := 62) (show n < 9 by omega)]
          refine ⟨_, ?_, zFr_w (by omega), h2⟩
          rw [(h.1.1.2 n hn).2.2.1, show 9 + 5 * n = 7 + 5 * n + 2 by omega]
        · rw [if_neg (by decide), ez_86_47, if_pos (by rw [e3]; decide), r3, decide_eq_true hm]
          simp only [zbs, zBi, cond_true, zc147_5 (d := 62) (show n < 9 by omega)]
          refine ⟨_, ?_, zFr_w (by omega), h2⟩
          rw [(h.1.1.2 n hn).2.2.2.1, show 10 + 5 * n = 7 + 5 * n + 3 by omega]
      · rw [ez_174]
        simp only [zm150 (d := 61) h.1 ⟨b0, b1⟩ hb, zbs, zBi, decide_eq_true q1, cond_true, zm159 (d := 61) ha hv, decide_eq_true q2, zm156 (d := 61) (b := n) (w := m) h.1 (show 7 + 5 * n + m < 320 by omega), zm155, zgd_t (iI_ink (z := ((7 + 5 * n + m : Nat) : Int)) (k := 7 + 5 * n + m) rfl (show 7 + 5 * n + m < 320 by omega) (by decide)), iI_Nn (show 7 + 5 * n + m ≤ 2147483647 by omega)]
        exact ⟨_, rfl, zFr_w (by omega), mS_up h.1⟩
    · refine zCq (-1) w (fun σ h => ?_) (fun σ h => ?_)
      · rw [ez_86]
        simp only [zc13 h.1.1.1 ⟨b0, b1⟩ hb, zbs, zBi, decide_eq_true q1, cond_true, e2, r2]
        have t : zrun (zev 63) zT_86 47 [some (.inr (.inr (0, 30))), some (.inl (iI n)), some (.inl (iI a)), some (.inl (iI v))] [] σ = some (-1, 0, σ) := by
          rw [ez_86_47]
          simp only [e3, r3, zbs, zBi]
          by_cases q3 : a = 3
          · rw [if_pos q3, decide_eq_false (fun z => q2 (Or.inr ⟨q3, z⟩))]; rfl
          · rw [if_neg q3]
        by_cases q3 : a = 2
        · rw [if_pos q3, decide_eq_false (fun z => q2 (Or.inl ⟨q3, z⟩)), cond_false, t]
          exact ⟨σ, rfl, zFr_r σ⟩
        · rw [if_neg q3, t]
          exact ⟨σ, rfl, zFr_r σ⟩
      · rw [ez_174]
        simp only [zm150 (d := 61) h.1 ⟨b0, b1⟩ hb, zbs, zBi, decide_eq_true q1, cond_true, zm159 (d := 61) ha hv, decide_eq_false q2, cond_false]
        exact ⟨σ, rfl, zFr_r σ, h.1⟩
theorem zx_87 {x : zXx} (w : WX x) (b k : Int) (hb : zrn b) (hk : zrn k) : zCall 87 175 [.inl (iI b), .inl (iI k)] x := by
  have b0 := w.1.1.1
  have b1 := w.1.1.2.1
  have r1 : ∀ {σ : zM}, zev 62 141 [.inl (iI k), .inl 1, .inl 5] σ = some (zB (decide (1 ≤ k ∧ k ≤ 5)), 0, σ) := zc141 (l := 1) (h := 5) hk (by decide) (by decide)
  have r2 : ∀ {σ : zM}, zev 63 142 [.inl (iI k)] σ = some (zB (decide (1 ≤ k ∧ k ≤ 5)), 0, σ) := fun {σ} => by
    rw [ez_142]
    simp only [r1, zbs]
    exact zB_g
  have m1 : ∀ {σ : zM}, zev 63 149 [.inr (.inl (Int32.toInt64 (iI k))), .inr (.inl 1), .inr (.inl 5)] σ = some (zB (decide (1 ≤ k ∧ k ≤ 5)), 0, σ) := zm149k (l := 1) (h := 5) hk (by decide) (by decide)
  by_cases q1 : 0 ≤ b ∧ b < x.1 0
  case neg =>
    refine zCq (-1) w (fun σ h => ?_) (fun σ h => ?_)
    · rw [ez_87]
      simp only [zc13 h.1.1.1 ⟨b0, b1⟩ hb, zbs, zBi, decide_eq_false q1, cond_false]
      exact ⟨σ, rfl, zFr_r σ⟩
    · rw [ez_175]
      simp only [zm150 (d := 61) h.1 ⟨b0, b1⟩ hb, zbs, zBi, decide_eq_false q1, cond_false]
      exact ⟨σ, rfl, zFr_r σ, h.1⟩
  case pos =>
    obtain ⟨n, rfl⟩ := zint q1.1
    have hn : n < (x.1 0).toNat := by omega
    by_cases q2 : 1 ≤ k ∧ k ≤ 5
    · refine zCs (zup x.1 (7 + 5 * n + 0) k) (iI (x.1 (7 + 5 * n + 0))) w (wA_up w.1 hn (by omega)) (wK_c w.2.2.2.2.2.2.1 w.1.1 (zup_n (by omega)) (fun i _ _ _ => zup_n (by omega))) (fun σ h => ?_) (fun σ h => ?_)
      · have h2 := cA_up (b := n) (w := 0) (v := k) h.1 w.1 hn (by omega)
        rw [ez_87]
        simp only [zc13 h.1.1.1 ⟨b0, b1⟩ hb, zbs, zBi, decide_eq_true q1, cond_true, r2, decide_eq_true q2, zc147_2 (d := 62) (show n < 9 by omega)]
        refine ⟨_, ?_, zFr_w (by omega), h2⟩
        rw [(h.1.1.2 n hn).1]
        rfl
      · have e6 := zm156 (d := 61) (b := n) (w := 0) h.1 (show 7 + 5 * n + 0 < 320 by omega)
        have e6 : zev 63 156 [.inr (.inr (0, 60)), .inl (iI n), .inl 0] σ = _ := e6
        have e5 : zev 63 155 [.inl (iI n), .inl 0] σ = some (iI ((7 + 5 * n + 0 : Nat) : Int), 0, σ) := zm155 (d := 62) (b := n) (w := 0)
        rw [ez_175]
        simp only [zm150 (d := 61) h.1 ⟨b0, b1⟩ hb, zbs, zBi, decide_eq_true q1, cond_true, m1, decide_eq_true q2, e6, e5, zgd_t (iI_ink (z := ((7 + 5 * n + 0 : Nat) : Int)) (k := 7 + 5 * n + 0) rfl (show 7 + 5 * n + 0 < 320 by omega) (by decide)), iI_Nn (show 7 + 5 * n + 0 ≤ 2147483647 by omega)]
        exact ⟨_, rfl, zFr_w (by omega), mS_up h.1⟩
    · refine zCq (-1) w (fun σ h => ?_) (fun σ h => ?_)
      · rw [ez_87]
        simp only [zc13 h.1.1.1 ⟨b0, b1⟩ hb, zbs, zBi, decide_eq_true q1, cond_true, r2, decide_eq_false q2, cond_false]
        exact ⟨σ, rfl, zFr_r σ⟩
      · rw [ez_175]
        simp only [zm150 (d := 61) h.1 ⟨b0, b1⟩ hb, zbs, zBi, decide_eq_true q1, cond_true, m1, decide_eq_false q2, cond_false]
        exact ⟨σ, rfl, zFr_r σ, h.1⟩
theorem zm182 {d : Nat} {p : Nat} {S : zS} {σ : zM} (h : mS 61 S σ) (hi : p < 8) (hr : -1 ≤ aSeat S p ∧ aSeat S p ≤ 9) : zev (d + 4) 182 [.inr (.inr (0, 60)), .inl (iI p)] σ = some (iI (cE (aSeat S p)), 0, σ) := by
  rw [ez_182]
  simp only [zm179 (d := d) h hi, zbs, iI_lt0 (show zrn (aSeat S p) by omega)]
  unfold cE
  by_cases q : aSeat S p < 0
  · rw [if_pos q, if_pos q]; rfl
  · rw [if_neg q, if_neg q]
theorem zx_94 {x : zXx} (w : WX x) (z : Int) (hz : zrn z) : zCall 94 185 [.inl (iI z)] x := by
  have b0 := w.1.1.1
  have b1 := w.1.1.2.1
  have wp := w.1.2.2.1
  have p0 := wp.1
  have p1 := wp.2.1
  by_cases q : 0 ≤ z ∧ z < x.1 2
  case neg =>
    refine zCq (-1) w (fun σ h => ?_) (fun σ h => ?_)
    · rw [ez_94]
      simp only [zc37 h.1.2.2.2.1.1 ⟨p0, p1⟩ hz, zbs, zBi, decide_eq_false q, cond_false]
      exact ⟨σ, rfl, zFr_r σ⟩
    · rw [ez_185]
      simp only [zm151 (d := 61) h.1 ⟨p0, p1⟩ hz, zbs, zBi, decide_eq_false q, cond_false]
      exact ⟨σ, rfl, zFr_r σ, h.1⟩
  case pos =>
    obtain ⟨p, rfl⟩ := zint q.1
    have hp : p < (x.1 2).toNat := by omega
    have hr := aSeat_r wp hp
    refine zCs (aSit x.1 p (-1)) (iI (cE (aSeat x.1 p))) w (aSit_w w.1 hp ⟨by omega, by omega⟩) (wK_c w.2.2.2.2.2.2.1 w.1.1 (aSit_n (by omega)) (fun i _ _ _ => aSit_n (by omega))) (fun σ h => ?_) (fun σ h => ?_)
    · have h2 := cA_sit (p := p) (z := -1) h.1 w.1 (by omega)
      rw [ez_94]
      simp only [zc37 h.1.2.2.2.1.1 ⟨p0, p1⟩ hz, zbs, zBi, decide_eq_true q, cond_true, zc147_18 (d := 62) (show p < 8 by omega)]
      refine ⟨_, ?_, zFr_w (by omega), h2⟩
      rw [(h.1.2.2.2.1.2 p hp).2.2]
      rfl
    · have h80 := zm180 (d := 61) (z := -1) (σ := σ) (show p < 8 by omega)
      have h80 : zev 63 180 [.inr (.inr (0, 60)), .inl (iI p), .inl (-1)] σ = _ := h80
      rw [ez_185]
      simp only [zm151 (d := 61) h.1 ⟨p0, p1⟩ hz, zbs, zBi, decide_eq_true q, cond_true, zm182 (d := 59) h.1 (show p < 8 by omega) ⟨hr.1, by omega⟩, h80]
      exact ⟨_, rfl, zFr_w (by omega), mS_up h.1⟩
theorem zx_93 {x : zXx} (w : WX x) (z y : Int) (hz : zrn z) (hy : zrn y) : zCall 93 184 [.inl (iI z), .inl (iI y)] x := by
  have b0 := w.1.1.1
  have b1 := w.1.1.2.1
  have wp := w.1.2.2.1
  have p0 := wp.1
  have p1 := wp.2.1
  by_cases q : 0 ≤ z ∧ z < x.1 2
  case neg =>
    refine zCq (-1) w (fun σ h => ?_) (fun σ h => ?_)
    · rw [ez_93]
      simp only [zc37 h.1.2.2.2.1.1 ⟨p0, p1⟩ hz, zbs, zBi, decide_eq_false q, cond_false]
      exact ⟨σ, rfl, zFr_r σ⟩
    · rw [ez_184]
      simp only [zm151 (d := 61) h.1 ⟨p0, p1⟩ hz, zbs, zBi, decide_eq_false q, cond_false]
      exact ⟨σ, rfl, zFr_r σ, h.1⟩
  case pos =>
    obtain ⟨p, rfl⟩ := zint q.1
    have hp : p < (x.1 2).toNat := by omega
    have hr := aSeat_r wp hp
    by_cases q2 : 0 ≤ y ∧ y < x.1 0
    case neg =>
      refine zCq (-1) w (fun σ h => ?_) (fun σ h => ?_)
      · rw [ez_93]
        simp only [zc37 h.1.2.2.2.1.1 ⟨p0, p1⟩ hz, zc13 h.1.1.1 ⟨b0, b1⟩ hy, zbs, zBi, decide_eq_true q, decide_eq_false q2, cond_true, cond_false]
        exact ⟨σ, rfl, zFr_r σ⟩
      · rw [ez_184]
        simp only [zm151 (d := 61) h.1 ⟨p0, p1⟩ hz, zm150 (d := 61) h.1 ⟨b0, b1⟩ hy, zbs, zBi, decide_eq_true q, decide_eq_false q2, cond_true, cond_false]
        exact ⟨σ, rfl, zFr_r σ, h.1⟩
    case pos =>
      obtain ⟨n, rfl⟩ := zint q2.1
      have w2 := w.1.1.2.2 n (by omega)
      have hbb : 0 ≤ x.1 (11 + 5 * n) ∧ x.1 (11 + 5 * n) ≤ 1 := by omega
      cases hk : aBrk x.1 n
      · refine zCs (aSit x.1 p n) (iI (cE (aSeat x.1 p))) w (aSit_w w.1 hp ⟨by omega, by omega⟩) (wK_c w.2.2.2.2.2.2.1 w.1.1 (aSit_n (by omega)) (fun i _ _ _ => aSit_n (by omega))) (fun σ h => ?_) (fun σ h => ?_)
        · have h2 := cA_sit (p := p) (z := n) h.1 w.1 (by omega)
          rw [show cE (n : Int) = n from if_neg (by omega)] at h2
          rw [ez_93]
          simp only [zc37 h.1.2.2.2.1.1 ⟨p0, p1⟩ hz, zc13 h.1.1.1 ⟨b0, b1⟩ hy, zc14 (d := 61) h.1.1 h.1.2.1 w.1.1 hy, zbs, zBi, decide_eq_true q, decide_eq_true q2, cond_true, Int.toNat_natCast, hk, Bool.not_false, Bool.and_true, zc147_18 (d := 62) (show p < 8 by omega)]
          refine ⟨_, ?_, zFr_w (by omega), h2⟩
          rw [(h.1.2.2.2.1.2 p hp).2.2]
        · rw [ez_184]
          simp only [zm151 (d := 61) h.1 ⟨p0, p1⟩ hz, zm150 (d := 61) h.1 ⟨b0, b1⟩ hy, zm157 (d := 60) h.1 (show n < 9 by omega) hbb, zbs, zBi, decide_eq_true q, decide_eq_true q2, cond_true, hk, cond_false, zm182 (d := 59) h.1 (show p < 8 by omega) ⟨hr.1, by omega⟩, zm180 (d := 61) (z := (n : Int)) (σ := σ) (show p < 8 by omega)]
          exact ⟨_, rfl, zFr_w (by omega), mS_up h.1⟩
      · refine zCq (-4) w (fun σ h => ?_) (fun σ h => ?_)
        · rw [ez_93]
          simp only [zc37 h.1.2.2.2.1.1 ⟨p0, p1⟩ hz, zc13 h.1.1.1 ⟨b0, b1⟩ hy, zc14 (d := 61) h.1.1 h.1.2.1 w.1.1 hy, zbs, zBi, decide_eq_true q, decide_eq_true q2, cond_true, Int.toNat_natCast, hk, Bool.not_true, Bool.and_false, cond_false]
          exact ⟨σ, rfl, zFr_r σ⟩
        · rw [ez_184]
          simp only [zm151 (d := 61) h.1 ⟨p0, p1⟩ hz, zm150 (d := 61) h.1 ⟨b0, b1⟩ hy, zm157 (d := 60) h.1 (show n < 9 by omega) hbb, zbs, zBi, decide_eq_true q, decide_eq_true q2, cond_true, hk]
          exact ⟨σ, rfl, zFr_r σ, h.1⟩
