noncomputable def zhd (pc i : Nat) (σ : zM) : zR := zrun (zev 64) zT_281 pc (zl5 i) [] σ
theorem yq_244 {L i : Nat} {xs : Nat → Int32} {σ : zM} (hL : L ≤ 2560) (hi : i + 5 ≤ L) (h : zJ L xs σ) (K : ∀ τ, zJ L xs τ → zwp (zhd 1581 i τ) (fun a _ _ => a = 1)) : zwp (zhd 244 i σ) (fun a _ _ => a = 1) := by
  obtain ⟨v, w1, σ1, e1, s1, v2, w2, σ2, e2, j2⟩ := zcl0 (J := 84) (J2 := 160) (as := [.inl (xs (i + 1)), .inl (xs (i + 2)), .inl (xs (i + 3)), .inl (xs (i + 4))]) (fun x w => by
    have c := zx_84 w (xs (i + 1)).toInt (xs (i + 2)).toInt (xs (i + 3)).toInt (xs (i + 4)).toInt (t_rn _) (t_rn _) (t_rn _) (t_rn _)
    rw [iI_t, iI_t, iI_t, iI_t] at c
    exact zCall_0 c) (yAi (yAi (yAi (yAi yA0)))) (yAi (yAi (yAi (yAi yA0)))) h
  have s0 := h.1
  have g01 : ∀ {X : zR}, zgd (zin (iI (i : Int) + 1) (zslen σ)) X = X := fun {X} => ygd (k := 1) s0 hL hi (by decide)
  have r01 : σ.1 0 90 (Int32.toNatClampNeg (iI (i : Int) + 1)) = xs (i + 1) := yrd (k := 1) s0 hL hi (by decide)
  have g11 : ∀ {X : zR}, zgd (zin (iI (i : Int) + 1) (zslen σ1)) X = X := fun {X} => ygd (k := 1) s1 hL hi (by decide)
  have r11 : σ1.1 0 90 (Int32.toNatClampNeg (iI (i : Int) + 1)) = xs (i + 1) := yrd (k := 1) s1 hL hi (by decide)
  have g02 : ∀ {X : zR}, zgd (zin (iI (i : Int) + 2) (zslen σ)) X = X := fun {X} => ygd (k := 2) s0 hL hi (by decide)
  have r02 : σ.1 0 90 (Int32.toNatClampNeg (iI (i : Int) + 2)) = xs (i + 2) := yrd (k := 2) s0 hL hi (by decide)
  have g12 : ∀ {X : zR}, zgd (zin (iI (i : Int) + 2) (zslen σ1)) X = X := fun {X} => ygd (k := 2) s1 hL hi (by decide)
  have r12 : σ1.1 0 90 (Int32.toNatClampNeg (iI (i : Int) + 2)) = xs (i + 2) := yrd (k := 2) s1 hL hi (by decide)
  have g03 : ∀ {X : zR}, zgd (zin (iI (i : Int) + 3) (zslen σ)) X = X := fun {X} => ygd (k := 3) s0 hL hi (by decide)
  have r03 : σ.1 0 90 (Int32.toNatClampNeg (iI (i : Int) + 3)) = xs (i + 3) := yrd (k := 3) s0 hL hi (by decide)
  have g13 : ∀ {X : zR}, zgd (zin (iI (i : Int) + 3) (zslen σ1)) X = X := fun {X} => ygd (k := 3) s1 hL hi (by decide)
  have r13 : σ1.1 0 90 (Int32.toNatClampNeg (iI (i : Int) + 3)) = xs (i + 3) := yrd (k := 3) s1 hL hi (by decide)
  have g04 : ∀ {X : zR}, zgd (zin (iI (i : Int) + 4) (zslen σ)) X = X := fun {X} => ygd (k := 4) s0 hL hi (by decide)
  have r04 : σ.1 0 90 (Int32.toNatClampNeg (iI (i : Int) + 4)) = xs (i + 4) := yrd (k := 4) s0 hL hi (by decide)
  have g14 : ∀ {X : zR}, zgd (zin (iI (i : Int) + 4) (zslen σ1)) X = X := fun {X} => ygd (k := 4) s1 hL hi (by decide)
  have r14 : σ1.1 0 90 (Int32.toNatClampNeg (iI (i : Int) + 4)) = xs (i + 4) := yrd (k := 4) s1 hL hi (by decide)
  have K2 := K σ2 j2
  unfold zhd at K2 ⊢
  rw [ezL_244]
  simp only [g01, r01, g02, r02, g03, r03, g04, r04]
  rw [e1]
  simp only [zbs, g11, r11, g12, r12, g13, r13, g14, r14]
  rw [e2]
  simp only [zbs]
  exact K2
theorem yq_297 {L i : Nat} {xs : Nat → Int32} {σ : zM} (hL : L ≤ 2560) (hi : i + 5 ≤ L) (h : zJ L xs σ) (K : ∀ τ, zJ L xs τ → zwp (zhd 1581 i τ) (fun a _ _ => a = 1)) : zwp (zhd 297 i σ) (fun a _ _ => a = 1) := by
  obtain ⟨v, w1, σ1, e1, s1, v2, w2, σ2, e2, j2⟩ := zcl0 (J := 85) (J2 := 173) (as := [.inl (xs (i + 1)), .inl (xs (i + 2))]) (fun x w => by
    have c := zx_85 w (xs (i + 1)).toInt (xs (i + 2)).toInt (t_rn _) (t_rn _)
    rw [iI_t, iI_t] at c
    exact zCall_0 c) (yAi (yAi yA0)) (yAi (yAi yA0)) h
  have s0 := h.1
  have g01 : ∀ {X : zR}, zgd (zin (iI (i : Int) + 1) (zslen σ)) X = X := fun {X} => ygd (k := 1) s0 hL hi (by decide)
  have r01 : σ.1 0 90 (Int32.toNatClampNeg (iI (i : Int) + 1)) = xs (i + 1) := yrd (k := 1) s0 hL hi (by decide)
  have g11 : ∀ {X : zR}, zgd (zin (iI (i : Int) + 1) (zslen σ1)) X = X := fun {X} => ygd (k := 1) s1 hL hi (by decide)
  have r11 : σ1.1 0 90 (Int32.toNatClampNeg (iI (i : Int) + 1)) = xs (i + 1) := yrd (k := 1) s1 hL hi (by decide)
  have g02 : ∀ {X : zR}, zgd (zin (iI (i : Int) + 2) (zslen σ)) X = X := fun {X} => ygd (k := 2) s0 hL hi (by decide)
  have r02 : σ.1 0 90 (Int32.toNatClampNeg (iI (i : Int) + 2)) = xs (i + 2) := yrd (k := 2) s0 hL hi (by decide)
  have g12 : ∀ {X : zR}, zgd (zin (iI (i : Int) + 2) (zslen σ1)) X = X := fun {X} => ygd (k := 2) s1 hL hi (by decide)
  have r12 : σ1.1 0 90 (Int32.toNatClampNeg (iI (i : Int) + 2)) = xs (i + 2) := yrd (k := 2) s1 hL hi (by decide)
  have K2 := K σ2 j2
  unfold zhd at K2 ⊢
  rw [ezL_297]
  simp only [g01, r01, g02, r02]
  rw [e1]
  simp only [zbs, g11, r11, g12, r12]
  rw [e2]
  simp only [zbs]
  exact K2
theorem yq_330 {L i : Nat} {xs : Nat → Int32} {σ : zM} (hL : L ≤ 2560) (hi : i + 5 ≤ L) (h : zJ L xs σ) (K : ∀ τ, zJ L xs τ → zwp (zhd 1581 i τ) (fun a _ _ => a = 1)) : zwp (zhd 330 i σ) (fun a _ _ => a = 1) := by
  obtain ⟨v, w1, σ1, e1, s1, v2, w2, σ2, e2, j2⟩ := zcl0 (J := 86) (J2 := 174) (as := [.inl (xs (i + 1)), .inl (xs (i + 2)), .inl (xs (i + 3))]) (fun x w => by
    have c := zx_86 w (xs (i + 1)).toInt (xs (i + 2)).toInt (xs (i + 3)).toInt (t_rn _) (t_rn _) (t_rn _)
    rw [iI_t, iI_t, iI_t] at c
    exact zCall_0 c) (yAi (yAi (yAi yA0))) (yAi (yAi (yAi yA0))) h
  have s0 := h.1
  have g01 : ∀ {X : zR}, zgd (zin (iI (i : Int) + 1) (zslen σ)) X = X := fun {X} => ygd (k := 1) s0 hL hi (by decide)
  have r01 : σ.1 0 90 (Int32.toNatClampNeg (iI (i : Int) + 1)) = xs (i + 1) := yrd (k := 1) s0 hL hi (by decide)
  have g11 : ∀ {X : zR}, zgd (zin (iI (i : Int) + 1) (zslen σ1)) X = X := fun {X} => ygd (k := 1) s1 hL hi (by decide)
  have r11 : σ1.1 0 90 (Int32.toNatClampNeg (iI (i : Int) + 1)) = xs (i + 1) := yrd (k := 1) s1 hL hi (by decide)
  have g02 : ∀ {X : zR}, zgd (zin (iI (i : Int) + 2) (zslen σ)) X = X := fun {X} => ygd (k := 2) s0 hL hi (by decide)
  have r02 : σ.1 0 90 (Int32.toNatClampNeg (iI (i : Int) + 2)) = xs (i + 2) := yrd (k := 2) s0 hL hi (by decide)
  have g12 : ∀ {X : zR}, zgd (zin (iI (i : Int) + 2) (zslen σ1)) X = X := fun {X} => ygd (k := 2) s1 hL hi (by decide)
  have r12 : σ1.1 0 90 (Int32.toNatClampNeg (iI (i : Int) + 2)) = xs (i + 2) := yrd (k := 2) s1 hL hi (by decide)
  have g03 : ∀ {X : zR}, zgd (zin (iI (i : Int) + 3) (zslen σ)) X = X := fun {X} => ygd (k := 3) s0 hL hi (by decide)
  have r03 : σ.1 0 90 (Int32.toNatClampNeg (iI (i : Int) + 3)) = xs (i + 3) := yrd (k := 3) s0 hL hi (by decide)
  have g13 : ∀ {X : zR}, zgd (zin (iI (i : Int) + 3) (zslen σ1)) X = X := fun {X} => ygd (k := 3) s1 hL hi (by decide)
  have r13 : σ1.1 0 90 (Int32.toNatClampNeg (iI (i : Int) + 3)) = xs (i + 3) := yrd (k := 3) s1 hL hi (by decide)
  have K2 := K σ2 j2
  unfold zhd at K2 ⊢
  rw [ezL_330]
  simp only [g01, r01, g02, r02, g03, r03]
  rw [e1]
  simp only [zbs, g11, r11, g12, r12, g13, r13]
  rw [e2]
  simp only [zbs]
  exact K2
theorem yq_373 {L i : Nat} {xs : Nat → Int32} {σ : zM} (hL : L ≤ 2560) (hi : i + 5 ≤ L) (h : zJ L xs σ) (K : ∀ τ, zJ L xs τ → zwp (zhd 1581 i τ) (fun a _ _ => a = 1)) : zwp (zhd 373 i σ) (fun a _ _ => a = 1) := by
  obtain ⟨v, w1, σ1, e1, s1, v2, w2, σ2, e2, j2⟩ := zcl0 (J := 87) (J2 := 175) (as := [.inl (xs (i + 1)), .inl (xs (i + 2))]) (fun x w => by
    have c := zx_87 w (xs (i + 1)).toInt (xs (i + 2)).toInt (t_rn _) (t_rn _)
    rw [iI_t, iI_t] at c
    exact zCall_0 c) (yAi (yAi yA0)) (yAi (yAi yA0)) h
  have s0 := h.1
  have g01 : ∀ {X : zR}, zgd (zin (iI (i : Int) + 1) (zslen σ)) X = X := fun {X} => ygd (k := 1) s0 hL hi (by decide)
  have r01 : σ.1 0 90 (Int32.toNatClampNeg (iI (i : Int) + 1)) = xs (i + 1) := yrd (k := 1) s0 hL hi (by decide)
  have g11 : ∀ {X : zR}, zgd (zin (iI (i : Int) + 1) (zslen σ1)) X = X := fun {X} => ygd (k := 1) s1 hL hi (by decide)
  have r11 : σ1.1 0 90 (Int32.toNatClampNeg (iI (i : Int) + 1)) = xs (i + 1) := yrd (k := 1) s1 hL hi (by decide)
  have g02 : ∀ {X : zR}, zgd (zin (iI (i : Int) + 2) (zslen σ)) X = X := fun {X} => ygd (k := 2) s0 hL hi (by decide)
  have r02 : σ.1 0 90 (Int32.toNatClampNeg (iI (i : Int) + 2)) = xs (i + 2) := yrd (k := 2) s0 hL hi (by decide)
  have g12 : ∀ {X : zR}, zgd (zin (iI (i : Int) + 2) (zslen σ1)) X = X := fun {X} => ygd (k := 2) s1 hL hi (by decide)
  have r12 : σ1.1 0 90 (Int32.toNatClampNeg (iI (i : Int) + 2)) = xs (i + 2) := yrd (k := 2) s1 hL hi (by decide)
  have K2 := K σ2 j2
  unfold zhd at K2 ⊢
  rw [ezL_373]
  simp only [g01, r01, g02, r02]
  rw [e1]
  simp only [zbs, g11, r11, g12, r12]
  rw [e2]
  simp only [zbs]
  exact K2
theorem yq_406 {L i : Nat} {xs : Nat → Int32} {σ : zM} (hL : L ≤ 2560) (hi : i + 5 ≤ L) (h : zJ L xs σ) (K : ∀ τ, zJ L xs τ → zwp (zhd 1581 i τ) (fun a _ _ => a = 1)) : zwp (zhd 406 i σ) (fun a _ _ => a = 1) := by
  obtain ⟨v, w1, σ1, e1, s1, v2, w2, σ2, e2, j2⟩ := zcl0 (J := 88) (J2 := 176) (as := [.inl (xs (i + 1)), .inl (xs (i + 2))]) (fun x w => by
    have c := zx_88 w (xs (i + 1)).toInt (xs (i + 2)).toInt (t_rn _) (t_rn _)
    rw [iI_t, iI_t] at c
    exact zCall_0 c) (yAi (yAi yA0)) (yAi (yAi yA0)) h
  have s0 := h.1
  have g01 : ∀ {X : zR}, zgd (zin (iI (i : Int) + 1) (zslen σ)) X = X := fun {X} => ygd (k := 1) s0 hL hi (by decide)
  have r01 : σ.1 0 90 (Int32.toNatClampNeg (iI (i : Int) + 1)) = xs (i + 1) := yrd (k := 1) s0 hL hi (by decide)
  have g11 : ∀ {X : zR}, zgd (zin (iI (i : Int) + 1) (zslen σ1)) X = X := fun {X} => ygd (k := 1) s1 hL hi (by decide)
  have r11 : σ1.1 0 90 (Int32.toNatClampNeg (iI (i : Int) + 1)) = xs (i + 1) := yrd (k := 1) s1 hL hi (by decide)
  have g02 : ∀ {X : zR}, zgd (zin (iI (i : Int) + 2) (zslen σ)) X = X := fun {X} => ygd (k := 2) s0 hL hi (by decide)
  have r02 : σ.1 0 90 (Int32.toNatClampNeg (iI (i : Int) + 2)) = xs (i + 2) := yrd (k := 2) s0 hL hi (by decide)
  have g12 : ∀ {X : zR}, zgd (zin (iI (i : Int) + 2) (zslen σ1)) X = X := fun {X} => ygd (k := 2) s1 hL hi (by decide)
  have r12 : σ1.1 0 90 (Int32.toNatClampNeg (iI (i : Int) + 2)) = xs (i + 2) := yrd (k := 2) s1 hL hi (by decide)
  have K2 := K σ2 j2
  unfold zhd at K2 ⊢
  rw [ezL_406]
  simp only [g01, r01, g02, r02]
  rw [e1]
  simp only [zbs, g11, r11, g12, r12]
  rw [e2]
  simp only [zbs]
  exact K2
theorem yq_439 {L i : Nat} {xs : Nat → Int32} {σ : zM} (hL : L ≤ 2560) (hi : i + 5 ≤ L) (h : zJ L xs σ) (K : ∀ τ, zJ L xs τ → zwp (zhd 1581 i τ) (fun a _ _ => a = 1)) : zwp (zhd 439 i σ) (fun a _ _ => a = 1) := by
  obtain ⟨v, w1, σ1, e1, s1, v2, w2, σ2, e2, j2⟩ := zcl0 (J := 89) (J2 := 231) (as := [.inr (.inl (((Int32.toInt64 (xs (i + 1))) <<< (Int32.toInt64 32 &&& 63)) ||| ((Int32.toInt64 (xs (i + 2))) &&& 4294967295))), .inl (xs (i + 3))]) (fun x w => by
    have c := zx_89 w (((Int32.toInt64 (xs (i + 1))) <<< (Int32.toInt64 32 &&& 63)) ||| ((Int32.toInt64 (xs (i + 2))) &&& 4294967295)) (xs (i + 3)).toInt (t_rn _)
    rw [iI_t] at c
    exact zCall_0 c) (yAj (yAi yA0)) (yAj (yAi yA0)) h
  have s0 := h.1
  have g01 : ∀ {X : zR}, zgd (zin (iI (i : Int) + 1) (zslen σ)) X = X := fun {X} => ygd (k := 1) s0 hL hi (by decide)
  have r01 : σ.1 0 90 (Int32.toNatClampNeg (iI (i : Int) + 1)) = xs (i + 1) := yrd (k := 1) s0 hL hi (by decide)
  have g11 : ∀ {X : zR}, zgd (zin (iI (i : Int) + 1) (zslen σ1)) X = X := fun {X} => ygd (k := 1) s1 hL hi (by decide)
  have r11 : σ1.1 0 90 (Int32.toNatClampNeg (iI (i : Int) + 1)) = xs (i + 1) := yrd (k := 1) s1 hL hi (by decide)
  have g02 : ∀ {X : zR}, zgd (zin (iI (i : Int) + 2) (zslen σ)) X = X := fun {X} => ygd (k := 2) s0 hL hi (by decide)
  have r02 : σ.1 0 90 (Int32.toNatClampNeg (iI (i : Int) + 2)) = xs (i + 2) := yrd (k := 2) s0 hL hi (by decide)
  have g12 : ∀ {X : zR}, zgd (zin (iI (i : Int) + 2) (zslen σ1)) X = X := fun {X} => ygd (k := 2) s1 hL hi (by decide)
  have r12 : σ1.1 0 90 (Int32.toNatClampNeg (iI (i : Int) + 2)) = xs (i + 2) := yrd (k := 2) s1 hL hi (by decide)
  have g03 : ∀ {X : zR}, zgd (zin (iI (i : Int) + 3) (zslen σ)) X = X := fun {X} => ygd (k := 3) s0 hL hi (by decide)
  have r03 : σ.1 0 90 (Int32.toNatClampNeg (iI (i : Int) + 3)) = xs (i + 3) := yrd (k := 3) s0 hL hi (by decide)
  have g13 : ∀ {X : zR}, zgd (zin (iI (i : Int) + 3) (zslen σ1)) X = X := fun {X} => ygd (k := 3) s1 hL hi (by decide)
  have r13 : σ1.1 0 90 (Int32.toNatClampNeg (iI (i : Int) + 3)) = xs (i + 3) := yrd (k := 3) s1 hL hi (by decide)
  have K2 := K σ2 j2
  unfold zhd at K2 ⊢
  rw [ezL_439]
  simp only [g01, r01, g02, r02, g03, r03]
  rw [e1]
  simp only [zbs, g11, r11, g12, r12, g13, r13]
  rw [e2]
  simp only [zbs]
  exact K2
theorem yq_502 {L i : Nat} {xs : Nat → Int32} {σ : zM} (hL : L ≤ 2560) (hi : i + 5 ≤ L) (h : zJ L xs σ) (K : ∀ τ, zJ L xs τ → zwp (zhd 1581 i τ) (fun a _ _ => a = 1)) : zwp (zhd 502 i σ) (fun a _ _ => a = 1) := by
  obtain ⟨v, w1, σ1, e1, s1, v2, w2, σ2, e2, j2⟩ := zcl0 (J := 90) (J2 := 248) (as := []) (fun x w => by
    have c := zx_90 w
    exact zCall_0 c) yA0 yA0 h
  have s0 := h.1
  have K2 := K σ2 j2
  unfold zhd at K2 ⊢
  rw [ezL_502]
  rw [e1]
  simp only [zbs]
  rw [e2]
  simp only [zbs]
  exact K2
theorem yq_515 {L i : Nat} {xs : Nat → Int32} {σ : zM} (hL : L ≤ 2560) (hi : i + 5 ≤ L) (h : zJ L xs σ) (K : ∀ τ, zJ L xs τ → zwp (zhd 1581 i τ) (fun a _ _ => a = 1)) : zwp (zhd 515 i σ) (fun a _ _ => a = 1) := by
  obtain ⟨v, w1, σ1, e1, s1, v2, w2, σ2, e2, j2⟩ := zcl0 (J := 91) (J2 := 181) (as := [.inl (xs (i + 1)), .inl (xs (i + 2))]) (fun x w => by
    have c := zx_91 w (xs (i + 1)).toInt (xs (i + 2)).toInt (t_rn _) (t_rn _)
    rw [iI_t, iI_t] at c
    exact zCall_0 c) (yAi (yAi yA0)) (yAi (yAi yA0)) h
  have s0 := h.1
  have g01 : ∀ {X : zR}, zgd (zin (iI (i : Int) + 1) (zslen σ)) X = X := fun {X} => ygd (k := 1) s0 hL hi (by decide)
  have r01 : σ.1 0 90 (Int32.toNatClampNeg (iI (i : Int) + 1)) = xs (i + 1) := yrd (k := 1) s0 hL hi (by decide)
  have g11 : ∀ {X : zR}, zgd (zin (iI (i : Int) + 1) (zslen σ1)) X = X := fun {X} => ygd (k := 1) s1 hL hi (by decide)
  have r11 : σ1.1 0 90 (Int32.toNatClampNeg (iI (i : Int) + 1)) = xs (i + 1) := yrd (k := 1) s1 hL hi (by decide)
  have g02 : ∀ {X : zR}, zgd (zin (iI (i : Int) + 2) (zslen σ)) X = X := fun {X} => ygd (k := 2) s0 hL hi (by decide)
  have r02 : σ.1 0 90 (Int32.toNatClampNeg (iI (i : Int) + 2)) = xs (i + 2) := yrd (k := 2) s0 hL hi (by decide)
  have g12 : ∀ {X : zR}, zgd (zin (iI (i : Int) + 2) (zslen σ1)) X = X := fun {X} => ygd (k := 2) s1 hL hi (by decide)
  have r12 : σ1.1 0 90 (Int32.toNatClampNeg (iI (i : Int) + 2)) = xs (i + 2) := yrd (k := 2) s1 hL hi (by decide)
  have K2 := K σ2 j2
  unfold zhd at K2 ⊢
  rw [ezL_515]
  simp only [g01, r01, g02, r02]
  rw [e1]
  simp only [zbs, g11, r11, g12, r12]
  rw [e2]
  simp only [zbs]
  exact K2
theorem yq_548 {L i : Nat} {xs : Nat → Int32} {σ : zM} (hL : L ≤ 2560) (hi : i + 5 ≤ L) (h : zJ L xs σ) (K : ∀ τ, zJ L xs τ → zwp (zhd 1581 i τ) (fun a _ _ => a = 1)) : zwp (zhd 548 i σ) (fun a _ _ => a = 1) := by
  obtain ⟨v, w1, σ1, e1, s1, v2, w2, σ2, e2, j2⟩ := zcl0 (J := 92) (J2 := 183) (as := [.inl (xs (i + 1)), .inl (xs (i + 2))]) (fun x w => by
    have c := zx_92 w (xs (i + 1)).toInt (xs (i + 2)).toInt (t_rn _) (t_rn _)
    rw [iI_t, iI_t] at c
    exact zCall_0 c) (yAi (yAi yA0)) (yAi (yAi yA0)) h
  have s0 := h.1
  have g01 : ∀ {X : zR}, zgd (zin (iI (i : Int) + 1) (zslen σ)) X = X := fun {X} => ygd (k := 1) s0 hL hi (by decide)
  have r01 : σ.1 0 90 (Int32.toNatClampNeg (iI (i : Int) + 1)) = xs (i + 1) := yrd (k := 1) s0 hL hi (by decide)
  have g11 : ∀ {X : zR}, zgd (zin (iI (i : Int) + 1) (zslen σ1)) X = X := fun {X} => ygd (k := 1) s1 hL hi (by decide)
  have r11 : σ1.1 0 90 (Int32.toNatClampNeg (iI (i : Int) + 1)) = xs (i + 1) := yrd (k := 1) s1 hL hi (by decide)
  have g02 : ∀ {X : zR}, zgd (zin (iI (i : Int) + 2) (zslen σ)) X = X := fun {X} => ygd (k := 2) s0 hL hi (by decide)
  have r02 : σ.1 0 90 (Int32.toNatClampNeg (iI (i : Int) + 2)) = xs (i + 2) := yrd (k := 2) s0 hL hi (by decide)
  have g12 : ∀ {X : zR}, zgd (zin (iI (i : Int) + 2) (zslen σ1)) X = X := fun {X} => ygd (k := 2) s1 hL hi (by decide)
  have r12 : σ1.1 0 90 (Int32.toNatClampNeg (iI (i : Int) + 2)) = xs (i + 2) := yrd (k := 2) s1 hL hi (by decide)
  have K2 := K σ2 j2
  unfold zhd at K2 ⊢
  rw [ezL_548]
  simp only [g01, r01, g02, r02]
  rw [e1]
  simp only [zbs, g11, r11, g12, r12]
  rw [e2]
  simp only [zbs]
  exact K2
theorem yq_581 {L i : Nat} {xs : Nat → Int32} {σ : zM} (hL : L ≤ 2560) (hi : i + 5 ≤ L) (h : zJ L xs σ) (K : ∀ τ, zJ L xs τ → zwp (zhd 1581 i τ) (fun a _ _ => a = 1)) : zwp (zhd 581 i σ) (fun a _ _ => a = 1) := by
  obtain ⟨v, w1, σ1, e1, s1, v2, w2, σ2, e2, j2⟩ := zcl0 (J := 93) (J2 := 184) (as := [.inl (xs (i + 1)), .inl (xs (i + 2))]) (fun x w => by
    have c := zx_93 w (xs (i + 1)).toInt (xs (i + 2)).toInt (t_rn _) (t_rn _)
    rw [iI_t, iI_t] at c
    exact zCall_0 c) (yAi (yAi yA0)) (yAi (yAi yA0)) h
  have s0 := h.1
  have g01 : ∀ {X : zR}, zgd (zin (iI (i : Int) + 1) (zslen σ)) X = X := fun {X} => ygd (k := 1) s0 hL hi (by decide)
  have r01 : σ.1 0 90 (Int32.toNatClampNeg (iI (i : Int) + 1)) = xs (i + 1) := yrd (k := 1) s0 hL hi (by decide)
  have g11 : ∀ {X : zR}, zgd (zin (iI (i : Int) + 1) (zslen σ1)) X = X := fun {X} => ygd (k := 1) s1 hL hi (by decide)
  have r11 : σ1.1 0 90 (Int32.toNatClampNeg (iI (i : Int) + 1)) = xs (i + 1) := yrd (k := 1) s1 hL hi (by decide)
  have g02 : ∀ {X : zR}, zgd (zin (iI (i : Int) + 2) (zslen σ)) X = X := fun {X} => ygd (k := 2) s0 hL hi (by decide)
  have r02 : σ.1 0 90 (Int32.toNatClampNeg (iI (i : Int) + 2)) = xs (i + 2) := yrd (k := 2) s0 hL hi (by decide)
  have g12 : ∀ {X : zR}, zgd (zin (iI (i : Int) + 2) (zslen σ1)) X = X := fun {X} => ygd (k := 2) s1 hL hi (by decide)
  have r12 : σ1.1 0 90 (Int32.toNatClampNeg (iI (i : Int) + 2)) = xs (i + 2) := yrd (k := 2) s1 hL hi (by decide)
  have K2 := K σ2 j2
  unfold zhd at K2 ⊢
  rw [ezL_581]
  simp only [g01, r01, g02, r02]
  rw [e1]
  simp only [zbs, g11, r11, g12, r12]
  rw [e2]
  simp only [zbs]
  exact K2
theorem yq_614 {L i : Nat} {xs : Nat → Int32} {σ : zM} (hL : L ≤ 2560) (hi : i + 5 ≤ L) (h : zJ L xs σ) (K : ∀ τ, zJ L xs τ → zwp (zhd 1581 i τ) (fun a _ _ => a = 1)) : zwp (zhd 614 i σ) (fun a _ _ => a = 1) := by
  obtain ⟨v, w1, σ1, e1, s1, v2, w2, σ2, e2, j2⟩ := zcl0 (J := 94) (J2 := 185) (as := [.inl (xs (i + 1))]) (fun x w => by
    have c := zx_94 w (xs (i + 1)).toInt (t_rn _)
    rw [iI_t] at c
    exact zCall_0 c) (yAi yA0) (yAi yA0) h
  have s0 := h.1
  have g01 : ∀ {X : zR}, zgd (zin (iI (i : Int) + 1) (zslen σ)) X = X := fun {X} => ygd (k := 1) s0 hL hi (by decide)
  have r01 : σ.1 0 90 (Int32.toNatClampNeg (iI (i : Int) + 1)) = xs (i + 1) := yrd (k := 1) s0 hL hi (by decide)
  have g11 : ∀ {X : zR}, zgd (zin (iI (i : Int) + 1) (zslen σ1)) X = X := fun {X} => ygd (k := 1) s1 hL hi (by decide)
  have r11 : σ1.1 0 90 (Int32.toNatClampNeg (iI (i : Int) + 1)) = xs (i + 1) := yrd (k := 1) s1 hL hi (by decide)
  have K2 := K σ2 j2
  unfold zhd at K2 ⊢
  rw [ezL_614]
  simp only [g01, r01]
  rw [e1]
  simp only [zbs, g11, r11]
  rw [e2]
  simp only [zbs]
  exact K2
theorem yq_637 {L i : Nat} {xs : Nat → Int32} {σ : zM} (hL : L ≤ 2560) (hi : i + 5 ≤ L) (h : zJ L xs σ) (K : ∀ τ, zJ L xs τ → zwp (zhd 1581 i τ) (fun a _ _ => a = 1)) : zwp (zhd 637 i σ) (fun a _ _ => a = 1) := by
  obtain ⟨v, w1, σ1, e1, s1, v2, w2, σ2, e2, j2⟩ := zcl0 (J := 95) (J2 := 186) (as := []) (fun x w => by
    have c := zx_95 w
    exact zCall_0 c) yA0 yA0 h
  have s0 := h.1
  have K2 := K σ2 j2
  unfold zhd at K2 ⊢
  rw [ezL_637]
  rw [e1]
  simp only [zbs]
  rw [e2]
  simp only [zbs]
  exact K2
theorem yq_650 {L i : Nat} {xs : Nat → Int32} {σ : zM} (hL : L ≤ 2560) (hi : i + 5 ≤ L) (h : zJ L xs σ) (K : ∀ τ, zJ L xs τ → zwp (zhd 1581 i τ) (fun a _ _ => a = 1)) : zwp (zhd 650 i σ) (fun a _ _ => a = 1) := by
  obtain ⟨v, w1, σ1, e1, s1, v2, w2, σ2, e2, j2⟩ := zcl0 (J := 96) (J2 := 188) (as := []) (fun x w => by
    have c := zx_96 w
    exact zCall_0 c) yA0 yA0 h
  have s0 := h.1
  have K2 := K σ2 j2
  unfold zhd at K2 ⊢
  rw [ezL_650]
  rw [e1]
  simp only [zbs]
  rw [e2]
  simp only [zbs]
  exact K2
theorem yq_663 {L i : Nat} {xs : Nat → Int32} {σ : zM} (hL : L ≤ 2560) (hi : i + 5 ≤ L) (h : zJ L xs σ) (K : ∀ τ, zJ L xs τ → zwp (zhd 1581 i τ) (fun a _ _ => a = 1)) : zwp (zhd 663 i σ) (fun a _ _ => a = 1) := by
  obtain ⟨v, w1, σ1, e1, s1, v2, w2, σ2, e2, j2⟩ := zcl0 (J := 97) (J2 := 191) (as := []) (fun x w => by
    have c := zx_97 w
    exact zCall_0 c) yA0 yA0 h
  have s0 := h.1
  have K2 := K σ2 j2
  unfold zhd at K2 ⊢
  rw [ezL_663]
  rw [e1]
  simp only [zbs]
  rw [e2]
  simp only [zbs]
  exact K2
theorem yq_676 {L i : Nat} {xs : Nat → Int32} {σ : zM} (hL : L ≤ 2560) (hi : i + 5 ≤ L) (h : zJ L xs σ) (K : ∀ τ, zJ L xs τ → zwp (zhd 1581 i τ) (fun a _ _ => a = 1)) : zwp (zhd 676 i σ) (fun a _ _ => a = 1) := by
  obtain ⟨v, w1, σ1, e1, s1, v2, w2, σ2, e2, j2⟩ := zcl0 (J := 98) (J2 := 192) (as := []) (fun x w => by
    have c := zx_98 w
    exact zCall_0 c) yA0 yA0 h
  have s0 := h.1
  have K2 := K σ2 j2
  unfold zhd at K2 ⊢
  rw [ezL_676]
  rw [e1]
  simp only [zbs]
  rw [e2]
  simp only [zbs]
  exact K2
theorem yq_689 {L i : Nat} {xs : Nat → Int32} {σ : zM} (hL : L ≤ 2560) (hi : i + 5 ≤ L) (h : zJ L xs σ) (K : ∀ τ, zJ L xs τ → zwp (zhd 1581 i τ) (fun a _ _ => a = 1)) : zwp (zhd 689 i σ) (fun a _ _ => a = 1) := by
  obtain ⟨v, w1, σ1, e1, s1, v2, w2, σ2, e2, j2⟩ := zcl0 (J := 99) (J2 := 194) (as := [.inl (xs (i + 1))]) (fun x w => by
    have c := zx_99 w (xs (i + 1)).toInt (t_rn _)
    rw [iI_t] at c
    exact zCall_0 c) (yAi yA0) (yAi yA0) h
  have s0 := h.1
  have g01 : ∀ {X : zR}, zgd (zin (iI (i : Int) + 1) (zslen σ)) X = X := fun {X} => ygd (k := 1) s0 hL hi (by decide)
  have r01 : σ.1 0 90 (Int32.toNatClampNeg (iI (i : Int) + 1)) = xs (i + 1) := yrd (k := 1) s0 hL hi (by decide)
  have g11 : ∀ {X : zR}, zgd (zin (iI (i : Int) + 1) (zslen σ1)) X = X := fun {X} => ygd (k := 1) s1 hL hi (by decide)
  have r11 : σ1.1 0 90 (Int32.toNatClampNeg (iI (i : Int) + 1)) = xs (i + 1) := yrd (k := 1) s1 hL hi (by decide)
  have K2 := K σ2 j2
  unfold zhd at K2 ⊢
  rw [ezL_689]
  simp only [g01, r01]
  rw [e1]
  simp only [zbs, g11, r11]
  rw [e2]
  simp only [zbs]
  exact K2
theorem yq_712 {L i : Nat} {xs : Nat → Int32} {σ : zM} (hL : L ≤ 2560) (hi : i + 5 ≤ L) (h : zJ L xs σ) (K : ∀ τ, zJ L xs τ → zwp (zhd 1581 i τ) (fun a _ _ => a = 1)) : zwp (zhd 712 i σ) (fun a _ _ => a = 1) := by
  obtain ⟨v, w1, σ1, e1, s1, v2, w2, σ2, e2, j2⟩ := zcl0 (J := 100) (J2 := 195) (as := []) (fun x w => by
    have c := zx_100 w
    exact zCall_0 c) yA0 yA0 h
  have s0 := h.1
  have K2 := K σ2 j2
  unfold zhd at K2 ⊢
  rw [ezL_712]
  rw [e1]
  simp only [zbs]
  rw [e2]
  simp only [zbs]
  exact K2
theorem yq_725 {L i : Nat} {xs : Nat → Int32} {σ : zM} (hL : L ≤ 2560) (hi : i + 5 ≤ L) (h : zJ L xs σ) (K : ∀ τ, zJ L xs τ → zwp (zhd 1581 i τ) (fun a _ _ => a = 1)) : zwp (zhd 725 i σ) (fun a _ _ => a = 1) := by
  obtain ⟨v, w1, σ1, e1, s1, v2, w2, σ2, e2, j2⟩ := zcl0 (J := 101) (J2 := 197) (as := [.inl (xs (i + 1))]) (fun x w => by
    have c := zx_101 w (xs (i + 1)).toInt (t_rn _)
    rw [iI_t] at c
    exact zCall_0 c) (yAi yA0) (yAi yA0) h
  have s0 := h.1
  have g01 : ∀ {X : zR}, zgd (zin (iI (i : Int) + 1) (zslen σ)) X = X := fun {X} => ygd (k := 1) s0 hL hi (by decide)
  have r01 : σ.1 0 90 (Int32.toNatClampNeg (iI (i : Int) + 1)) = xs (i + 1) := yrd (k := 1) s0 hL hi (by decide)
  have g11 : ∀ {X : zR}, zgd (zin (iI (i : Int) + 1) (zslen σ1)) X = X := fun {X} => ygd (k := 1) s1 hL hi (by decide)
  have r11 : σ1.1 0 90 (Int32.toNatClampNeg (iI (i : Int) + 1)) = xs (i + 1) := yrd (k := 1) s1 hL hi (by decide)
  have K2 := K σ2 j2
  unfold zhd at K2 ⊢
  rw [ezL_725]
  simp only [g01, r01]
  rw [e1]
  simp only [zbs, g11, r11]
  rw [e2]
  simp only [zbs]
  exact K2
theorem yq_748 {L i : Nat} {xs : Nat → Int32} {σ : zM} (hL : L ≤ 2560) (hi : i + 5 ≤ L) (h : zJ L xs σ) (K : ∀ τ, zJ L xs τ → zwp (zhd 1581 i τ) (fun a _ _ => a = 1)) : zwp (zhd 748 i σ) (fun a _ _ => a = 1) := by
  obtain ⟨v, w1, σ1, e1, s1, v2, w2, σ2, e2, j2⟩ := zcl0 (J := 102) (J2 := 198) (as := [.inl (xs (i + 1))]) (fun x w => by
    have c := zx_102 w (xs (i + 1)).toInt (t_rn _)
    rw [iI_t] at c
    exact zCall_0 c) (yAi yA0) (yAi yA0) h
  have s0 := h.1
  have g01 : ∀ {X : zR}, zgd (zin (iI (i : Int) + 1) (zslen σ)) X = X := fun {X} => ygd (k := 1) s0 hL hi (by decide)
  have r01 : σ.1 0 90 (Int32.toNatClampNeg (iI (i : Int) + 1)) = xs (i + 1) := yrd (k := 1) s0 hL hi (by decide)
  have g11 : ∀ {X : zR}, zgd (zin (iI (i : Int) + 1) (zslen σ1)) X = X := fun {X} => ygd (k := 1) s1 hL hi (by decide)
  have r11 : σ1.1 0 90 (Int32.toNatClampNeg (iI (i : Int) + 1)) = xs (i + 1) := yrd (k := 1) s1 hL hi (by decide)
  have K2 := K σ2 j2
  unfold zhd at K2 ⊢
  rw [ezL_748]
  simp only [g01, r01]
  rw [e1]
  simp only [zbs, g11, r11]
  rw [e2]
  simp only [zbs]
  exact K2
theorem yq_771 {L i : Nat} {xs : Nat → Int32} {σ : zM} (hL : L ≤ 2560) (hi : i + 5 ≤ L) (h : zJ L xs σ) (K : ∀ τ, zJ L xs τ → zwp (zhd 1581 i τ) (fun a _ _ => a = 1)) : zwp (zhd 771 i σ) (fun a _ _ => a = 1) := by
  obtain ⟨v, w1, σ1, e1, s1, v2, w2, σ2, e2, j2⟩ := zcl0 (J := 103) (J2 := 199) (as := [.inl (xs (i + 1))]) (fun x w => by
    have c := zx_103 w (xs (i + 1)).toInt (t_rn _)
    rw [iI_t] at c
    exact zCall2_0 c) (yAi yA0) (yAi yA0) h
  have s0 := h.1
  have g01 : ∀ {X : zR}, zgd (zin (iI (i : Int) + 1) (zslen σ)) X = X := fun {X} => ygd (k := 1) s0 hL hi (by decide)
  have r01 : σ.1 0 90 (Int32.toNatClampNeg (iI (i : Int) + 1)) = xs (i + 1) := yrd (k := 1) s0 hL hi (by decide)
  have g11 : ∀ {X : zR}, zgd (zin (iI (i : Int) + 1) (zslen σ1)) X = X := fun {X} => ygd (k := 1) s1 hL hi (by decide)
  have r11 : σ1.1 0 90 (Int32.toNatClampNeg (iI (i : Int) + 1)) = xs (i + 1) := yrd (k := 1) s1 hL hi (by decide)
  have K2 := K σ2 j2
  unfold zhd at K2 ⊢
  rw [ezL_771]
  simp only [g01, r01]
  rw [e1]
  simp only [zbs, g11, r11]
  rw [e2]
  simp only [zbs]
  exact K2
theorem yq_794 {L i : Nat} {xs : Nat → Int32} {σ : zM} (hL : L ≤ 2560) (hi : i + 5 ≤ L) (h : zJ L xs σ) (K : ∀ τ, zJ L xs τ → zwp (zhd 1581 i τ) (fun a _ _ => a = 1)) : zwp (zhd 794 i σ) (fun a _ _ => a = 1) := by
  obtain ⟨v, w1, σ1, e1, s1, v2, w2, σ2, e2, j2⟩ := zcl0 (J := 104) (J2 := 200) (as := []) (fun x w => by
    have c := zx_104 w
    exact zCall_0 c) yA0 yA0 h
  have s0 := h.1
  have K2 := K σ2 j2
  unfold zhd at K2 ⊢
  rw [ezL_794]
  rw [e1]
  simp only [zbs]
  rw [e2]
  simp only [zbs]
  exact K2
theorem yq_807 {L i : Nat} {xs : Nat → Int32} {σ : zM} (hL : L ≤ 2560) (hi : i + 5 ≤ L) (h : zJ L xs σ) (K : ∀ τ, zJ L xs τ → zwp (zhd 1581 i τ) (fun a _ _ => a = 1)) : zwp (zhd 807 i σ) (fun a _ _ => a = 1) := by
  obtain ⟨v, w1, σ1, e1, s1, v2, w2, σ2, e2, j2⟩ := zcl0 (J := 105) (J2 := 202) (as := []) (fun x w => by
    have c := zx_105 w
    exact zCall_0 c) yA0 yA0 h
  have s0 := h.1
  have K2 := K σ2 j2
  unfold zhd at K2 ⊢
  rw [ezL_807]
  rw [e1]
  simp only [zbs]
  rw [e2]
  simp only [zbs]
  exact K2
theorem yq_820 {L i : Nat} {xs : Nat → Int32} {σ : zM} (hL : L ≤ 2560) (hi : i + 5 ≤ L) (h : zJ L xs σ) (K : ∀ τ, zJ L xs τ → zwp (zhd 1581 i τ) (fun a _ _ => a = 1)) : zwp (zhd 820 i σ) (fun a _ _ => a = 1) := by
  obtain ⟨v, w1, σ1, e1, s1, v2, w2, σ2, e2, j2⟩ := zcl0 (J := 106) (J2 := 203) (as := []) (fun x w => by
    have c := zx_106 w
    exact zCall_0 c) yA0 yA0 h
  have s0 := h.1
  have K2 := K σ2 j2
  unfold zhd at K2 ⊢
  rw [ezL_820]
  rw [e1]
  simp only [zbs]
  rw [e2]
  simp only [zbs]
  exact K2
theorem yq_833 {L i : Nat} {xs : Nat → Int32} {σ : zM} (hL : L ≤ 2560) (hi : i + 5 ≤ L) (h : zJ L xs σ) (K : ∀ τ, zJ L xs τ → zwp (zhd 1581 i τ) (fun a _ _ => a = 1)) : zwp (zhd 833 i σ) (fun a _ _ => a = 1) := by
  obtain ⟨v, w1, σ1, e1, s1, v2, w2, σ2, e2, j2⟩ := zcl0 (J := 110) (J2 := 208) (as := [.inl (xs (i + 1)), .inl (xs (i + 2))]) (fun x w => by
    have c := zx_110 w (xs (i + 1)).toInt (xs (i + 2)).toInt (t_rn _) (t_rn _)
    rw [iI_t, iI_t] at c
    exact zCall_0 c) (yAi (yAi yA0)) (yAi (yAi yA0)) h
  have s0 := h.1
  have g01 : ∀ {X : zR}, zgd (zin (iI (i : Int) + 1) (zslen σ)) X = X := fun {X} => ygd (k := 1) s0 hL hi (by decide)
  have r01 : σ.1 0 90 (Int32.toNatClampNeg (iI (i : Int) + 1)) = xs (i + 1) := yrd (k := 1) s0 hL hi (by decide)
  have g11 : ∀ {X : zR}, zgd (zin (iI (i : Int) + 1) (zslen σ1)) X = X := fun {X} => ygd (k := 1) s1 hL hi (by decide)
  have r11 : σ1.1 0 90 (Int32.toNatClampNeg (iI (i : Int) + 1)) = xs (i + 1) := yrd (k := 1) s1 hL hi (by decide)
  have g02 : ∀ {X : zR}, zgd (zin (iI (i : Int) + 2) (zslen σ)) X = X := fun {X} => ygd (k := 2) s0 hL hi (by decide)
  have r02 : σ.1 0 90 (Int32.toNatClampNeg (iI (i : Int) + 2)) = xs (i + 2) := yrd (k := 2) s0 hL hi (by decide)
  have g12 : ∀ {X : zR}, zgd (zin (iI (i : Int) + 2) (zslen σ1)) X = X := fun {X} => ygd (k := 2) s1 hL hi (by decide)
  have r12 : σ1.1 0 90 (Int32.toNatClampNeg (iI (i : Int) + 2)) = xs (i + 2) := yrd (k := 2) s1 hL hi (by decide)
  have K2 := K σ2 j2
  unfold zhd at K2 ⊢
  rw [ezL_833]
  simp only [g01, r01, g02, r02]
  rw [e1]
  simp only [zbs, g11, r11, g12, r12]
  rw [e2]
  simp only [zbs]
  exact K2
theorem yq_866 {L i : Nat} {xs : Nat → Int32} {σ : zM} (hL : L ≤ 2560) (hi : i + 5 ≤ L) (h : zJ L xs σ) (K : ∀ τ, zJ L xs τ → zwp (zhd 1581 i τ) (fun a _ _ => a = 1)) : zwp (zhd 866 i σ) (fun a _ _ => a = 1) := by
  obtain ⟨v, w1, σ1, e1, s1, v2, w2, σ2, e2, j2⟩ := zcl0 (J := 111) (J2 := 209) (as := [.inl (xs (i + 1))]) (fun x w => by
    have c := zx_111 w (xs (i + 1)).toInt (t_rn _)
    rw [iI_t] at c
    exact zCall_0 c) (yAi yA0) (yAi yA0) h
  have s0 := h.1
  have g01 : ∀ {X : zR}, zgd (zin (iI (i : Int) + 1) (zslen σ)) X = X := fun {X} => ygd (k := 1) s0 hL hi (by decide)
  have r01 : σ.1 0 90 (Int32.toNatClampNeg (iI (i : Int) + 1)) = xs (i + 1) := yrd (k := 1) s0 hL hi (by decide)
  have g11 : ∀ {X : zR}, zgd (zin (iI (i : Int) + 1) (zslen σ1)) X = X := fun {X} => ygd (k := 1) s1 hL hi (by decide)
  have r11 : σ1.1 0 90 (Int32.toNatClampNeg (iI (i : Int) + 1)) = xs (i + 1) := yrd (k := 1) s1 hL hi (by decide)
  have K2 := K σ2 j2
  unfold zhd at K2 ⊢
  rw [ezL_866]
  simp only [g01, r01]
  rw [e1]
  simp only [zbs, g11, r11]
  rw [e2]
  simp only [zbs]
  exact K2
theorem yq_889 {L i : Nat} {xs : Nat → Int32} {σ : zM} (hL : L ≤ 2560) (hi : i + 5 ≤ L) (h : zJ L xs σ) (K : ∀ τ, zJ L xs τ → zwp (zhd 1581 i τ) (fun a _ _ => a = 1)) : zwp (zhd 889 i σ) (fun a _ _ => a = 1) := by
  obtain ⟨v, w1, σ1, e1, s1, v2, w2, σ2, e2, j2⟩ := zcl0 (J := 112) (J2 := 215) (as := [.inl (xs (i + 1)), .inl (xs (i + 2))]) (fun x w => by
    have c := zx_112 w (xs (i + 1)).toInt (xs (i + 2)).toInt (t_rn _) (t_rn _)
    rw [iI_t, iI_t] at c
    exact zCall_0 c) (yAi (yAi yA0)) (yAi (yAi yA0)) h
  have s0 := h.1
  have g01 : ∀ {X : zR}, zgd (zin (iI (i : Int) + 1) (zslen σ)) X = X := fun {X} => ygd (k := 1) s0 hL hi (by decide)
  have r01 : σ.1 0 90 (Int32.toNatClampNeg (iI (i : Int) + 1)) = xs (i + 1) := yrd (k := 1) s0 hL hi (by decide)
  have g11 : ∀ {X : zR}, zgd (zin (iI (i : Int) + 1) (zslen σ1)) X = X := fun {X} => ygd (k := 1) s1 hL hi (by decide)
  have r11 : σ1.1 0 90 (Int32.toNatClampNeg (iI (i : Int) + 1)) = xs (i + 1) := yrd (k := 1) s1 hL hi (by decide)
  have g02 : ∀ {X : zR}, zgd (zin (iI (i : Int) + 2) (zslen σ)) X = X := fun {X} => ygd (k := 2) s0 hL hi (by decide)
  have r02 : σ.1 0 90 (Int32.toNatClampNeg (iI (i : Int) + 2)) = xs (i + 2) := yrd (k := 2) s0 hL hi (by decide)
  have g12 : ∀ {X : zR}, zgd (zin (iI (i : Int) + 2) (zslen σ1)) X = X := fun {X} => ygd (k := 2) s1 hL hi (by decide)
  have r12 : σ1.1 0 90 (Int32.toNatClampNeg (iI (i : Int) + 2)) = xs (i + 2) := yrd (k := 2) s1 hL hi (by decide)
  have K2 := K σ2 j2
  unfold zhd at K2 ⊢
  rw [ezL_889]
  simp only [g01, r01, g02, r02]
  rw [e1]
  simp only [zbs, g11, r11, g12, r12]
  rw [e2]
  simp only [zbs]
  exact K2
theorem yq_922 {L i : Nat} {xs : Nat → Int32} {σ : zM} (hL : L ≤ 2560) (hi : i + 5 ≤ L) (h : zJ L xs σ) (K : ∀ τ, zJ L xs τ → zwp (zhd 1581 i τ) (fun a _ _ => a = 1)) : zwp (zhd 922 i σ) (fun a _ _ => a = 1) := by
  obtain ⟨v, w1, σ1, e1, s1, v2, w2, σ2, e2, j2⟩ := zcl0 (J := 113) (J2 := 216) (as := [.inl (xs (i + 1)), .inl (xs (i + 2))]) (fun x w => by
    have c := zx_113 w (xs (i + 1)).toInt (xs (i + 2)).toInt (t_rn _) (t_rn _)
    rw [iI_t, iI_t] at c
    exact zCall_0 c) (yAi (yAi yA0)) (yAi (yAi yA0)) h
  have s0 := h.1
  have g01 : ∀ {X : zR}, zgd (zin (iI (i : Int) + 1) (zslen σ)) X = X := fun {X} => ygd (k := 1) s0 hL hi (by decide)
  have r01 : σ.1 0 90 (Int32.toNatClampNeg (iI (i : Int) + 1)) = xs (i + 1) := yrd (k := 1) s0 hL hi (by decide)
  have g11 : ∀ {X : zR}, zgd (zin (iI (i : Int) + 1) (zslen σ1)) X = X := fun {X} => ygd (k := 1) s1 hL hi (by decide)
  have r11 : σ1.1 0 90 (Int32.toNatClampNeg (iI (i : Int) + 1)) = xs (i + 1) := yrd (k := 1) s1 hL hi (by decide)
  have g02 : ∀ {X : zR}, zgd (zin (iI (i : Int) + 2) (zslen σ)) X = X := fun {X} => ygd (k := 2) s0 hL hi (by decide)
  have r02 : σ.1 0 90 (Int32.toNatClampNeg (iI (i : Int) + 2)) = xs (i + 2) := yrd (k := 2) s0 hL hi (by decide)
  have g12 : ∀ {X : zR}, zgd (zin (iI (i : Int) + 2) (zslen σ1)) X = X := fun {X} => ygd (k := 2) s1 hL hi (by decide)
  have r12 : σ1.1 0 90 (Int32.toNatClampNeg (iI (i : Int) + 2)) = xs (i + 2) := yrd (k := 2) s1 hL hi (by decide)
  have K2 := K σ2 j2
  unfold zhd at K2 ⊢
  rw [ezL_922]
  simp only [g01, r01, g02, r02]
  rw [e1]
  simp only [zbs, g11, r11, g12, r12]
  rw [e2]
  simp only [zbs]
  exact K2
theorem yq_955 {L i : Nat} {xs : Nat → Int32} {σ : zM} (hL : L ≤ 2560) (hi : i + 5 ≤ L) (h : zJ L xs σ) (K : ∀ τ, zJ L xs τ → zwp (zhd 1581 i τ) (fun a _ _ => a = 1)) : zwp (zhd 955 i σ) (fun a _ _ => a = 1) := by
  obtain ⟨v, w1, σ1, e1, s1, v2, w2, σ2, e2, j2⟩ := zcl0 (J := 115) (J2 := 217) (as := [.inl (xs (i + 1)), .inl (xs (i + 2))]) (fun x w => by
    have c := zx_115 w (xs (i + 1)).toInt (xs (i + 2)).toInt (t_rn _) (t_rn _)
    rw [iI_t, iI_t] at c
    exact zCall_0 c) (yAi (yAi yA0)) (yAi (yAi yA0)) h
  have s0 := h.1
  have g01 : ∀ {X : zR}, zgd (zin (iI (i : Int) + 1) (zslen σ)) X = X := fun {X} => ygd (k := 1) s0 hL hi (by decide)
  have r01 : σ.1 0 90 (Int32.toNatClampNeg (iI (i : Int) + 1)) = xs (i + 1) := yrd (k := 1) s0 hL hi (by decide)
  have g11 : ∀ {X : zR}, zgd (zin (iI (i : Int) + 1) (zslen σ1)) X = X := fun {X} => ygd (k := 1) s1 hL hi (by decide)
  have r11 : σ1.1 0 90 (Int32.toNatClampNeg (iI (i : Int) + 1)) = xs (i + 1) := yrd (k := 1) s1 hL hi (by decide)
  have g02 : ∀ {X : zR}, zgd (zin (iI (i : Int) + 2) (zslen σ)) X = X := fun {X} => ygd (k := 2) s0 hL hi (by decide)
  have r02 : σ.1 0 90 (Int32.toNatClampNeg (iI (i : Int) + 2)) = xs (i + 2) := yrd (k := 2) s0 hL hi (by decide)
  have g12 : ∀ {X : zR}, zgd (zin (iI (i : Int) + 2) (zslen σ1)) X = X := fun {X} => ygd (k := 2) s1 hL hi (by decide)
  have r12 : σ1.1 0 90 (Int32.toNatClampNeg (iI (i : Int) + 2)) = xs (i + 2) := yrd (k := 2) s1 hL hi (by decide)
  have K2 := K σ2 j2
  unfold zhd at K2 ⊢
  rw [ezL_955]
  simp only [g01, r01, g02, r02]
  rw [e1]
  simp only [zbs, g11, r11, g12, r12]
  rw [e2]
  simp only [zbs]
  exact K2
theorem yq_988 {L i : Nat} {xs : Nat → Int32} {σ : zM} (hL : L ≤ 2560) (hi : i + 5 ≤ L) (h : zJ L xs σ) (K : ∀ τ, zJ L xs τ → zwp (zhd 1581 i τ) (fun a _ _ => a = 1)) : zwp (zhd 988 i σ) (fun a _ _ => a = 1) := by
  obtain ⟨v, w1, σ1, e1, s1, v2, w2, σ2, e2, j2⟩ := zcl0 (J := 116) (J2 := 218) (as := []) (fun x w => by
    have c := zx_116 w
    exact zCall_0 c) yA0 yA0 h
  have s0 := h.1
  have K2 := K σ2 j2
  unfold zhd at K2 ⊢
  rw [ezL_988]
  rw [e1]
  simp only [zbs]
  rw [e2]
  simp only [zbs]
  exact K2
theorem yq_1001 {L i : Nat} {xs : Nat → Int32} {σ : zM} (hL : L ≤ 2560) (hi : i + 5 ≤ L) (h : zJ L xs σ) (K : ∀ τ, zJ L xs τ → zwp (zhd 1581 i τ) (fun a _ _ => a = 1)) : zwp (zhd 1001 i σ) (fun a _ _ => a = 1) := by
  obtain ⟨v, w1, σ1, e1, s1, v2, w2, σ2, e2, j2⟩ := zcl0 (J := 117) (J2 := 221) (as := [.inl (xs (i + 1))]) (fun x w => by
    have c := zx_117 w (xs (i + 1)).toInt (t_rn _)
    rw [iI_t] at c
    exact zCall_0 c) (yAi yA0) (yAi yA0) h
  have s0 := h.1
  have g01 : ∀ {X : zR}, zgd (zin (iI (i : Int) + 1) (zslen σ)) X = X := fun {X} => ygd (k := 1) s0 hL hi (by decide)
  have r01 : σ.1 0 90 (Int32.toNatClampNeg (iI (i : Int) + 1)) = xs (i + 1) := yrd (k := 1) s0 hL hi (by decide)
  have g11 : ∀ {X : zR}, zgd (zin (iI (i : Int) + 1) (zslen σ1)) X = X := fun {X} => ygd (k := 1) s1 hL hi (by decide)
  have r11 : σ1.1 0 90 (Int32.toNatClampNeg (iI (i : Int) + 1)) = xs (i + 1) := yrd (k := 1) s1 hL hi (by decide)
  have K2 := K σ2 j2
  unfold zhd at K2 ⊢
  rw [ezL_1001]
  simp only [g01, r01]
  rw [e1]
  simp only [zbs, g11, r11]
  rw [e2]
  simp only [zbs]
  exact K2
theorem yq_1024 {L i : Nat} {xs : Nat → Int32} {σ : zM} (hL : L ≤ 2560) (hi : i + 5 ≤ L) (h : zJ L xs σ) (K : ∀ τ, zJ L xs τ → zwp (zhd 1581 i τ) (fun a _ _ => a = 1)) : zwp (zhd 1024 i σ) (fun a _ _ => a = 1) := by
  obtain ⟨v, w1, σ1, e1, s1, v2, w2, σ2, e2, j2⟩ := zcl0 (J := 118) (J2 := 222) (as := []) (fun x w => by
    have c := zx_118 w
    exact zCall_0 c) yA0 yA0 h
  have s0 := h.1
  have K2 := K σ2 j2
  unfold zhd at K2 ⊢
  rw [ezL_1024]
  rw [e1]
  simp only [zbs]
  rw [e2]
  simp only [zbs]
  exact K2
theorem yq_1037 {L i : Nat} {xs : Nat → Int32} {σ : zM} (hL : L ≤ 2560) (hi : i + 5 ≤ L) (h : zJ L xs σ) (K : ∀ τ, zJ L xs τ → zwp (zhd 1581 i τ) (fun a _ _ => a = 1)) : zwp (zhd 1037 i σ) (fun a _ _ => a = 1) := by
  obtain ⟨v, w1, σ1, e1, s1, v2, w2, σ2, e2, j2⟩ := zcl0 (J := 119) (J2 := 223) (as := [.inl (xs (i + 1))]) (fun x w => by
    have c := zx_119 w (xs (i + 1)).toInt (t_rn _)
    rw [iI_t] at c
    exact zCall_0 c) (yAi yA0) (yAi yA0) h
  have s0 := h.1
  have g01 : ∀ {X : zR}, zgd (zin (iI (i : Int) + 1) (zslen σ)) X = X := fun {X} => ygd (k := 1) s0 hL hi (by decide)
  have r01 : σ.1 0 90 (Int32.toNatClampNeg (iI (i : Int) + 1)) = xs (i + 1) := yrd (k := 1) s0 hL hi (by decide)
  have g11 : ∀ {X : zR}, zgd (zin (iI (i : Int) + 1) (zslen σ1)) X = X := fun {X} => ygd (k := 1) s1 hL hi (by decide)
  have r11 : σ1.1 0 90 (Int32.toNatClampNeg (iI (i : Int) + 1)) = xs (i + 1) := yrd (k := 1) s1 hL hi (by decide)
  have K2 := K σ2 j2
  unfold zhd at K2 ⊢
  rw [ezL_1037]
  simp only [g01, r01]
  rw [e1]
  simp only [zbs, g11, r11]
  rw [e2]
  simp only [zbs]
  exact K2
theorem yq_1060 {L i : Nat} {xs : Nat → Int32} {σ : zM} (hL : L ≤ 2560) (hi : i + 5 ≤ L) (h : zJ L xs σ) (K : ∀ τ, zJ L xs τ → zwp (zhd 1581 i τ) (fun a _ _ => a = 1)) : zwp (zhd 1060 i σ) (fun a _ _ => a = 1) := by
  obtain ⟨v, w1, σ1, e1, s1, v2, w2, σ2, e2, j2⟩ := zcl0 (J := 120) (J2 := 224) (as := []) (fun x w => by
    have c := zx_120 w
    exact zCall_0 c) yA0 yA0 h
  have s0 := h.1
  have K2 := K σ2 j2
  unfold zhd at K2 ⊢
  rw [ezL_1060]
  rw [e1]
  simp only [zbs]
  rw [e2]
  simp only [zbs]
  exact K2
theorem yq_1073 {L i : Nat} {xs : Nat → Int32} {σ : zM} (hL : L ≤ 2560) (hi : i + 5 ≤ L) (h : zJ L xs σ) (K : ∀ τ, zJ L xs τ → zwp (zhd 1581 i τ) (fun a _ _ => a = 1)) : zwp (zhd 1073 i σ) (fun a _ _ => a = 1) := by
  obtain ⟨v, w1, σ1, e1, s1, v2, w2, σ2, e2, j2⟩ := zcl0 (J := 121) (J2 := 225) (as := [.inl (xs (i + 1))]) (fun x w => by
    have c := zx_121 w (xs (i + 1)).toInt (t_rn _)
    rw [iI_t] at c
    exact zCall_0 c) (yAi yA0) (yAi yA0) h
  have s0 := h.1
  have g01 : ∀ {X : zR}, zgd (zin (iI (i : Int) + 1) (zslen σ)) X = X := fun {X} => ygd (k := 1) s0 hL hi (by decide)
  have r01 : σ.1 0 90 (Int32.toNatClampNeg (iI (i : Int) + 1)) = xs (i + 1) := yrd (k := 1) s0 hL hi (by decide)
  have g11 : ∀ {X : zR}, zgd (zin (iI (i : Int) + 1) (zslen σ1)) X = X := fun {X} => ygd (k := 1) s1 hL hi (by decide)
  have r11 : σ1.1 0 90 (Int32.toNatClampNeg (iI (i : Int) + 1)) = xs (i + 1) := yrd (k := 1) s1 hL hi (by decide)
  have K2 := K σ2 j2
  unfold zhd at K2 ⊢
  rw [ezL_1073]
  simp only [g01, r01]
  rw [e1]
  simp only [zbs, g11, r11]
  rw [e2]
  simp only [zbs]
  exact K2
theorem yq_1096 {L i : Nat} {xs : Nat → Int32} {σ : zM} (hL : L ≤ 2560) (hi : i + 5 ≤ L) (h : zJ L xs σ) (K : ∀ τ, zJ L xs τ → zwp (zhd 1581 i τ) (fun a _ _ => a = 1)) : zwp (zhd 1096 i σ) (fun a _ _ => a = 1) := by
  obtain ⟨v, w1, σ1, e1, s1, v2, w2, σ2, e2, j2⟩ := zcl0 (J := 124) (J2 := 226) (as := [.inl (xs (i + 1))]) (fun x w => by
    have c := zx_124 w (xs (i + 1)).toInt (t_rn _)
    rw [iI_t] at c
    exact zCall_0 c) (yAi yA0) (yAi yA0) h
  have s0 := h.1
  have g01 : ∀ {X : zR}, zgd (zin (iI (i : Int) + 1) (zslen σ)) X = X := fun {X} => ygd (k := 1) s0 hL hi (by decide)
  have r01 : σ.1 0 90 (Int32.toNatClampNeg (iI (i : Int) + 1)) = xs (i + 1) := yrd (k := 1) s0 hL hi (by decide)
  have g11 : ∀ {X : zR}, zgd (zin (iI (i : Int) + 1) (zslen σ1)) X = X := fun {X} => ygd (k := 1) s1 hL hi (by decide)
  have r11 : σ1.1 0 90 (Int32.toNatClampNeg (iI (i : Int) + 1)) = xs (i + 1) := yrd (k := 1) s1 hL hi (by decide)
  have K2 := K σ2 j2
  unfold zhd at K2 ⊢
  rw [ezL_1096]
  simp only [g01, r01]
  rw [e1]
  simp only [zbs, g11, r11]
  rw [e2]
  simp only [zbs]
  exact K2
theorem yq_1119 {L i : Nat} {xs : Nat → Int32} {σ : zM} (hL : L ≤ 2560) (hi : i + 5 ≤ L) (h : zJ L xs σ) (K : ∀ τ, zJ L xs τ → zwp (zhd 1581 i τ) (fun a _ _ => a = 1)) : zwp (zhd 1119 i σ) (fun a _ _ => a = 1) := by
  obtain ⟨v, w1, σ1, e1, s1, v2, w2, σ2, e2, j2⟩ := zcl0 (J := 125) (J2 := 228) (as := [.inl (xs (i + 1)), .inl (xs (i + 2))]) (fun x w => by
    have c := zx_125 w (xs (i + 1)).toInt (xs (i + 2)).toInt (t_rn _) (t_rn _)
    rw [iI_t, iI_t] at c
    exact zCall_0 c) (yAi (yAi yA0)) (yAi (yAi yA0)) h
  have s0 := h.1
  have g01 : ∀ {X : zR}, zgd (zin (iI (i : Int) + 1) (zslen σ)) X = X := fun {X} => ygd (k := 1) s0 hL hi (by decide)
  have r01 : σ.1 0 90 (Int32.toNatClampNeg (iI (i : Int) + 1)) = xs (i + 1) := yrd (k := 1) s0 hL hi (by decide)
  have g11 : ∀ {X : zR}, zgd (zin (iI (i : Int) + 1) (zslen σ1)) X = X := fun {X} => ygd (k := 1) s1 hL hi (by decide)
  have r11 : σ1.1 0 90 (Int32.toNatClampNeg (iI (i : Int) + 1)) = xs (i + 1) := yrd (k := 1) s1 hL hi (by decide)
  have g02 : ∀ {X : zR}, zgd (zin (iI (i : Int) + 2) (zslen σ)) X = X := fun {X} => ygd (k := 2) s0 hL hi (by decide)
  have r02 : σ.1 0 90 (Int32.toNatClampNeg (iI (i : Int) + 2)) = xs (i + 2) := yrd (k := 2) s0 hL hi (by decide)
  have g12 : ∀ {X : zR}, zgd (zin (iI (i : Int) + 2) (zslen σ1)) X = X := fun {X} => ygd (k := 2) s1 hL hi (by decide)
  have r12 : σ1.1 0 90 (Int32.toNatClampNeg (iI (i : Int) + 2)) = xs (i + 2) := yrd (k := 2) s1 hL hi (by decide)
  have K2 := K σ2 j2
  unfold zhd at K2 ⊢
  rw [ezL_1119]
  simp only [g01, r01, g02, r02]
  rw [e1]
  simp only [zbs, g11, r11, g12, r12]
  rw [e2]
  simp only [zbs]
  exact K2
theorem yq_1152 {L i : Nat} {xs : Nat → Int32} {σ : zM} (hL : L ≤ 2560) (hi : i + 5 ≤ L) (h : zJ L xs σ) (K : ∀ τ, zJ L xs τ → zwp (zhd 1581 i τ) (fun a _ _ => a = 1)) : zwp (zhd 1152 i σ) (fun a _ _ => a = 1) := by
  obtain ⟨v, w1, σ1, e1, s1, v2, w2, σ2, e2, j2⟩ := zcl0 (J := 126) (J2 := 229) (as := [.inl (xs (i + 1)), .inl (xs (i + 2)), .inl (xs (i + 3))]) (fun x w => by
    have c := zx_126 w (xs (i + 1)).toInt (xs (i + 2)).toInt (xs (i + 3)).toInt (t_rn _) (t_rn _) (t_rn _)
    rw [iI_t, iI_t, iI_t] at c
    exact zCall_0 c) (yAi (yAi (yAi yA0))) (yAi (yAi (yAi yA0))) h
  have s0 := h.1
  have g01 : ∀ {X : zR}, zgd (zin (iI (i : Int) + 1) (zslen σ)) X = X := fun {X} => ygd (k := 1) s0 hL hi (by decide)
  have r01 : σ.1 0 90 (Int32.toNatClampNeg (iI (i : Int) + 1)) = xs (i + 1) := yrd (k := 1) s0 hL hi (by decide)
  have g11 : ∀ {X : zR}, zgd (zin (iI (i : Int) + 1) (zslen σ1)) X = X := fun {X} => ygd (k := 1) s1 hL hi (by decide)
  have r11 : σ1.1 0 90 (Int32.toNatClampNeg (iI (i : Int) + 1)) = xs (i + 1) := yrd (k := 1) s1 hL hi (by decide)
  have g02 : ∀ {X : zR}, zgd (zin (iI (i : Int) + 2) (zslen σ)) X = X := fun {X} => ygd (k := 2) s0 hL hi (by decide)
  have r02 : σ.1 0 90 (Int32.toNatClampNeg (iI (i : Int) + 2)) = xs (i + 2) := yrd (k := 2) s0 hL hi (by decide)
  have g12 : ∀ {X : zR}, zgd (zin (iI (i : Int) + 2) (zslen σ1)) X = X := fun {X} => ygd (k := 2) s1 hL hi (by decide)
  have r12 : σ1.1 0 90 (Int32.toNatClampNeg (iI (i : Int) + 2)) = xs (i + 2) := yrd (k := 2) s1 hL hi (by decide)
  have g03 : ∀ {X : zR}, zgd (zin (iI (i : Int) + 3) (zslen σ)) X = X := fun {X} => ygd (k := 3) s0 hL hi (by decide)
  have r03 : σ.1 0 90 (Int32.toNatClampNeg (iI (i : Int) + 3)) = xs (i + 3) := yrd (k := 3) s0 hL hi (by decide)
  have g13 : ∀ {X : zR}, zgd (zin (iI (i : Int) + 3) (zslen σ1)) X = X := fun {X} => ygd (k := 3) s1 hL hi (by decide)
  have r13 : σ1.1 0 90 (Int32.toNatClampNeg (iI (i : Int) + 3)) = xs (i + 3) := yrd (k := 3) s1 hL hi (by decide)
  have K2 := K σ2 j2
  unfold zhd at K2 ⊢
  rw [ezL_1152]
  simp only [g01, r01, g02, r02, g03, r03]
  rw [e1]
  simp only [zbs, g11, r11, g12, r12, g13, r13]
  rw [e2]
  simp only [zbs]
  exact K2
theorem yq_1195 {L i : Nat} {xs : Nat → Int32} {σ : zM} (hL : L ≤ 2560) (hi : i + 5 ≤ L) (h : zJ L xs σ) (K : ∀ τ, zJ L xs τ → zwp (zhd 1581 i τ) (fun a _ _ => a = 1)) : zwp (zhd 1195 i σ) (fun a _ _ => a = 1) := by
  obtain ⟨v, w1, σ1, e1, s1, v2, w2, σ2, e2, j2⟩ := zcl0 (J := 127) (J2 := 230) (as := []) (fun x w => by
    have c := zx_127 w
    exact zCall_0 c) yA0 yA0 h
  have s0 := h.1
  have K2 := K σ2 j2
  unfold zhd at K2 ⊢
  rw [ezL_1195]
  rw [e1]
  simp only [zbs]
  rw [e2]
  simp only [zbs]
  exact K2
theorem yq_1208 {L i : Nat} {xs : Nat → Int32} {σ : zM} (hL : L ≤ 2560) (hi : i + 5 ≤ L) (h : zJ L xs σ) (K : ∀ τ, zJ L xs τ → zwp (zhd 1581 i τ) (fun a _ _ => a = 1)) : zwp (zhd 1208 i σ) (fun a _ _ => a = 1) := by
  obtain ⟨v, w1, σ1, e1, s1, v2, w2, σ2, e2, j2⟩ := zcl0 (J := 128) (J2 := 250) (as := [.inl (xs (i + 1)), .inl (xs (i + 2)), .inl (xs (i + 3))]) (fun x w => by
    have c := zx_128 w (xs (i + 1)).toInt (xs (i + 2)).toInt (xs (i + 3)).toInt (t_rn _) (t_rn _) (t_rn _)
    rw [iI_t, iI_t, iI_t] at c
    exact zCall_0 c) (yAi (yAi (yAi yA0))) (yAi (yAi (yAi yA0))) h
  have s0 := h.1
  have g01 : ∀ {X : zR}, zgd (zin (iI (i : Int) + 1) (zslen σ)) X = X := fun {X} => ygd (k := 1) s0 hL hi (by decide)
  have r01 : σ.1 0 90 (Int32.toNatClampNeg (iI (i : Int) + 1)) = xs (i + 1) := yrd (k := 1) s0 hL hi (by decide)
  have g11 : ∀ {X : zR}, zgd (zin (iI (i : Int) + 1) (zslen σ1)) X = X := fun {X} => ygd (k := 1) s1 hL hi (by decide)
  have r11 : σ1.1 0 90 (Int32.toNatClampNeg (iI (i : Int) + 1)) = xs (i + 1) := yrd (k := 1) s1 hL hi (by decide)
  have g02 : ∀ {X : zR}, zgd (zin (iI (i : Int) + 2) (zslen σ)) X = X := fun {X} => ygd (k := 2) s0 hL hi (by decide)
  have r02 : σ.1 0 90 (Int32.toNatClampNeg (iI (i : Int) + 2)) = xs (i + 2) := yrd (k := 2) s0 hL hi (by decide)
  have g12 : ∀ {X : zR}, zgd (zin (iI (i : Int) + 2) (zslen σ1)) X = X := fun {X} => ygd (k := 2) s1 hL hi (by decide)
  have r12 : σ1.1 0 90 (Int32.toNatClampNeg (iI (i : Int) + 2)) = xs (i + 2) := yrd (k := 2) s1 hL hi (by decide)
  have g03 : ∀ {X : zR}, zgd (zin (iI (i : Int) + 3) (zslen σ)) X = X := fun {X} => ygd (k := 3) s0 hL hi (by decide)
  have r03 : σ.1 0 90 (Int32.toNatClampNeg (iI (i : Int) + 3)) = xs (i + 3) := yrd (k := 3) s0 hL hi (by decide)
  have g13 : ∀ {X : zR}, zgd (zin (iI (i : Int) + 3) (zslen σ1)) X = X := fun {X} => ygd (k := 3) s1 hL hi (by decide)
  have r13 : σ1.1 0 90 (Int32.toNatClampNeg (iI (i : Int) + 3)) = xs (i + 3) := yrd (k := 3) s1 hL hi (by decide)
  have K2 := K σ2 j2
  unfold zhd at K2 ⊢
  rw [ezL_1208]
  simp only [g01, r01, g02, r02, g03, r03]
  rw [e1]
  simp only [zbs, g11, r11, g12, r12, g13, r13]
  rw [e2]
  simp only [zbs]
  exact K2
theorem yq_1251 {L i : Nat} {xs : Nat → Int32} {σ : zM} (hL : L ≤ 2560) (hi : i + 5 ≤ L) (h : zJ L xs σ) (K : ∀ τ, zJ L xs τ → zwp (zhd 1581 i τ) (fun a _ _ => a = 1)) : zwp (zhd 1251 i σ) (fun a _ _ => a = 1) := by
  obtain ⟨v, w1, σ1, e1, s1, v2, w2, σ2, e2, j2⟩ := zcl0 (J := 129) (J2 := 252) (as := [.inl (xs (i + 1)), .inl (xs (i + 2)), .inl (xs (i + 3))]) (fun x w => by
    have c := zx_129 w (xs (i + 1)).toInt (xs (i + 2)).toInt (xs (i + 3)).toInt (t_rn _) (t_rn _) (t_rn _)
    rw [iI_t, iI_t, iI_t] at c
    exact zCall_0 c) (yAi (yAi (yAi yA0))) (yAi (yAi (yAi yA0))) h
  have s0 := h.1
  have g01 : ∀ {X : zR}, zgd (zin (iI (i : Int) + 1) (zslen σ)) X = X := fun {X} => ygd (k := 1) s0 hL hi (by decide)
  have r01 : σ.1 0 90 (Int32.toNatClampNeg (iI (i : Int) + 1)) = xs (i + 1) := yrd (k := 1) s0 hL hi (by decide)
  have g11 : ∀ {X : zR}, zgd (zin (iI (i : Int) + 1) (zslen σ1)) X = X := fun {X} => ygd (k := 1) s1 hL hi (by decide)
  have r11 : σ1.1 0 90 (Int32.toNatClampNeg (iI (i : Int) + 1)) = xs (i + 1) := yrd (k := 1) s1 hL hi (by decide)
  have g02 : ∀ {X : zR}, zgd (zin (iI (i : Int) + 2) (zslen σ)) X = X := fun {X} => ygd (k := 2) s0 hL hi (by decide)
  have r02 : σ.1 0 90 (Int32.toNatClampNeg (iI (i : Int) + 2)) = xs (i + 2) := yrd (k := 2) s0 hL hi (by decide)
  have g12 : ∀ {X : zR}, zgd (zin (iI (i : Int) + 2) (zslen σ1)) X = X := fun {X} => ygd (k := 2) s1 hL hi (by decide)
  have r12 : σ1.1 0 90 (Int32.toNatClampNeg (iI (i : Int) + 2)) = xs (i + 2) := yrd (k := 2) s1 hL hi (by decide)
  have g03 : ∀ {X : zR}, zgd (zin (iI (i : Int) + 3) (zslen σ)) X = X := fun {X} => ygd (k := 3) s0 hL hi (by decide)
  have r03 : σ.1 0 90 (Int32.toNatClampNeg (iI (i : Int) + 3)) = xs (i + 3) := yrd (k := 3) s0 hL hi (by decide)
  have g13 : ∀ {X : zR}, zgd (zin (iI (i : Int) + 3) (zslen σ1)) X = X := fun {X} => ygd (k := 3) s1 hL hi (by decide)
  have r13 : σ1.1 0 90 (Int32.toNatClampNeg (iI (i : Int) + 3)) = xs (i + 3) := yrd (k := 3) s1 hL hi (by decide)
  have K2 := K σ2 j2
  unfold zhd at K2 ⊢
  rw [ezL_1251]
  simp only [g01, r01, g02, r02, g03, r03]
  rw [e1]
  simp only [zbs, g11, r11, g12, r12, g13, r13]
  rw [e2]
  simp only [zbs]
  exact K2
theorem yq_1294 {L i : Nat} {xs : Nat → Int32} {σ : zM} (hL : L ≤ 2560) (hi : i + 5 ≤ L) (h : zJ L xs σ) (K : ∀ τ, zJ L xs τ → zwp (zhd 1581 i τ) (fun a _ _ => a = 1)) : zwp (zhd 1294 i σ) (fun a _ _ => a = 1) := by
  obtain ⟨v, w1, σ1, e1, s1, v2, w2, σ2, e2, j2⟩ := zcl0 (J := 130) (J2 := 254) (as := [.inl (xs (i + 1)), .inl (xs (i + 2)), .inl (xs (i + 3))]) (fun x w => by
    have c := zx_130 w (xs (i + 1)).toInt (xs (i + 2)).toInt (xs (i + 3)).toInt (t_rn _) (t_rn _) (t_rn _)
    rw [iI_t, iI_t, iI_t] at c
    exact zCall_0 c) (yAi (yAi (yAi yA0))) (yAi (yAi (yAi yA0))) h
  have s0 := h.1
  have g01 : ∀ {X : zR}, zgd (zin (iI (i : Int) + 1) (zslen σ)) X = X := fun {X} => ygd (k := 1) s0 hL hi (by decide)
  have r01 : σ.1 0 90 (Int32.toNatClampNeg (iI (i : Int) + 1)) = xs (i + 1) := yrd (k := 1) s0 hL hi (by decide)
  have g11 : ∀ {X : zR}, zgd (zin (iI (i : Int) + 1) (zslen σ1)) X = X := fun {X} => ygd (k := 1) s1 hL hi (by decide)
  have r11 : σ1.1 0 90 (Int32.toNatClampNeg (iI (i : Int) + 1)) = xs (i + 1) := yrd (k := 1) s1 hL hi (by decide)
  have g02 : ∀ {X : zR}, zgd (zin (iI (i : Int) + 2) (zslen σ)) X = X := fun {X} => ygd (k := 2) s0 hL hi (by decide)
  have r02 : σ.1 0 90 (Int32.toNatClampNeg (iI (i : Int) + 2)) = xs (i + 2) := yrd (k := 2) s0 hL hi (by decide)
  have g12 : ∀ {X : zR}, zgd (zin (iI (i : Int) + 2) (zslen σ1)) X = X := fun {X} => ygd (k := 2) s1 hL hi (by decide)
  have r12 : σ1.1 0 90 (Int32.toNatClampNeg (iI (i : Int) + 2)) = xs (i + 2) := yrd (k := 2) s1 hL hi (by decide)
  have g03 : ∀ {X : zR}, zgd (zin (iI (i : Int) + 3) (zslen σ)) X = X := fun {X} => ygd (k := 3) s0 hL hi (by decide)
  have r03 : σ.1 0 90 (Int32.toNatClampNeg (iI (i : Int) + 3)) = xs (i + 3) := yrd (k := 3) s0 hL hi (by decide)
  have g13 : ∀ {X : zR}, zgd (zin (iI (i : Int) + 3) (zslen σ1)) X = X := fun {X} => ygd (k := 3) s1 hL hi (by decide)
  have r13 : σ1.1 0 90 (Int32.toNatClampNeg (iI (i : Int) + 3)) = xs (i + 3) := yrd (k := 3) s1 hL hi (by decide)
  have K2 := K σ2 j2
  unfold zhd at K2 ⊢
  rw [ezL_1294]
  simp only [g01, r01, g02, r02, g03, r03]
  rw [e1]
  simp only [zbs, g11, r11, g12, r12, g13, r13]
  rw [e2]
  simp only [zbs]
  exact K2
theorem yq_1337 {L i : Nat} {xs : Nat → Int32} {σ : zM} (hL : L ≤ 2560) (hi : i + 5 ≤ L) (h : zJ L xs σ) (K : ∀ τ, zJ L xs τ → zwp (zhd 1581 i τ) (fun a _ _ => a = 1)) : zwp (zhd 1337 i σ) (fun a _ _ => a = 1) := by
  obtain ⟨v, w1, σ1, e1, s1, v2, w2, σ2, e2, j2⟩ := zcl0 (J := 131) (J2 := 255) (as := [.inl (xs (i + 1)), .inl (xs (i + 2)), .inl (xs (i + 3)), .inl (xs (i + 4))]) (fun x w => by
    have c := zx_131 w (xs (i + 1)).toInt (xs (i + 2)).toInt (xs (i + 3)).toInt (xs (i + 4)).toInt (t_rn _) (t_rn _) (t_rn _) (t_rn _)
    rw [iI_t, iI_t, iI_t, iI_t] at c
    exact zCall_0 c) (yAi (yAi (yAi (yAi yA0)))) (yAi (yAi (yAi (yAi yA0)))) h
  have s0 := h.1
  have g01 : ∀ {X : zR}, zgd (zin (iI (i : Int) + 1) (zslen σ)) X = X := fun {X} => ygd (k := 1) s0 hL hi (by decide)
  have r01 : σ.1 0 90 (Int32.toNatClampNeg (iI (i : Int) + 1)) = xs (i + 1) := yrd (k := 1) s0 hL hi (by decide)
  have g11 : ∀ {X : zR}, zgd (zin (iI (i : Int) + 1) (zslen σ1)) X = X := fun {X} => ygd (k := 1) s1 hL hi (by decide)
  have r11 : σ1.1 0 90 (Int32.toNatClampNeg (iI (i : Int) + 1)) = xs (i + 1) := yrd (k := 1) s1 hL hi (by decide)
  have g02 : ∀ {X : zR}, zgd (zin (iI (i : Int) + 2) (zslen σ)) X = X := fun {X} => ygd (k := 2) s0 hL hi (by decide)
  have r02 : σ.1 0 90 (Int32.toNatClampNeg (iI (i : Int) + 2)) = xs (i + 2) := yrd (k := 2) s0 hL hi (by decide)
  have g12 : ∀ {X : zR}, zgd (zin (iI (i : Int) + 2) (zslen σ1)) X = X := fun {X} => ygd (k := 2) s1 hL hi (by decide)
  have r12 : σ1.1 0 90 (Int32.toNatClampNeg (iI (i : Int) + 2)) = xs (i + 2) := yrd (k := 2) s1 hL hi (by decide)
  have g03 : ∀ {X : zR}, zgd (zin (iI (i : Int) + 3) (zslen σ)) X = X := fun {X} => ygd (k := 3) s0 hL hi (by decide)
  have r03 : σ.1 0 90 (Int32.toNatClampNeg (iI (i : Int) + 3)) = xs (i + 3) := yrd (k := 3) s0 hL hi (by decide)
  have g13 : ∀ {X : zR}, zgd (zin (iI (i : Int) + 3) (zslen σ1)) X = X := fun {X} => ygd (k := 3) s1 hL hi (by decide)
  have r13 : σ1.1 0 90 (Int32.toNatClampNeg (iI (i : Int) + 3)) = xs (i + 3) := yrd (k := 3) s1 hL hi (by decide)
  have g04 : ∀ {X : zR}, zgd (zin (iI (i : Int) + 4) (zslen σ)) X = X := fun {X} => ygd (k := 4) s0 hL hi (by decide)
  have r04 : σ.1 0 90 (Int32.toNatClampNeg (iI (i : Int) + 4)) = xs (i + 4) := yrd (k := 4) s0 hL hi (by decide)
  have g14 : ∀ {X : zR}, zgd (zin (iI (i : Int) + 4) (zslen σ1)) X = X := fun {X} => ygd (k := 4) s1 hL hi (by decide)
  have r14 : σ1.1 0 90 (Int32.toNatClampNeg (iI (i : Int) + 4)) = xs (i + 4) := yrd (k := 4) s1 hL hi (by decide)
  have K2 := K σ2 j2
  unfold zhd at K2 ⊢
  rw [ezL_1337]
  simp only [g01, r01, g02, r02, g03, r03, g04, r04]
  rw [e1]
  simp only [zbs, g11, r11, g12, r12, g13, r13, g14, r14]
  rw [e2]
  simp only [zbs]
  exact K2
theorem yq_1390 {L i : Nat} {xs : Nat → Int32} {σ : zM} (hL : L ≤ 2560) (hi : i + 5 ≤ L) (h : zJ L xs σ) (K : ∀ τ, zJ L xs τ → zwp (zhd 1581 i τ) (fun a _ _ => a = 1)) : zwp (zhd 1390 i σ) (fun a _ _ => a = 1) := by
  obtain ⟨v, w1, σ1, e1, s1, v2, w2, σ2, e2, j2⟩ := zcl0 (J := 132) (J2 := 256) (as := [.inl (xs (i + 1)), .inl (xs (i + 2)), .inl (xs (i + 3))]) (fun x w => by
    have c := zx_132 w (xs (i + 1)).toInt (xs (i + 2)).toInt (xs (i + 3)).toInt (t_rn _) (t_rn _) (t_rn _)
    rw [iI_t, iI_t, iI_t] at c
    exact zCall_0 c) (yAi (yAi (yAi yA0))) (yAi (yAi (yAi yA0))) h
  have s0 := h.1
  have g01 : ∀ {X : zR}, zgd (zin (iI (i : Int) + 1) (zslen σ)) X = X := fun {X} => ygd (k := 1) s0 hL hi (by decide)
  have r01 : σ.1 0 90 (Int32.toNatClampNeg (iI (i : Int) + 1)) = xs (i + 1) := yrd (k := 1) s0 hL hi (by decide)
  have g11 : ∀ {X : zR}, zgd (zin (iI (i : Int) + 1) (zslen σ1)) X = X := fun {X} => ygd (k := 1) s1 hL hi (by decide)
  have r11 : σ1.1 0 90 (Int32.toNatClampNeg (iI (i : Int) + 1)) = xs (i + 1) := yrd (k := 1) s1 hL hi (by decide)
  have g02 : ∀ {X : zR}, zgd (zin (iI (i : Int) + 2) (zslen σ)) X = X := fun {X} => ygd (k := 2) s0 hL hi (by decide)
  have r02 : σ.1 0 90 (Int32.toNatClampNeg (iI (i : Int) + 2)) = xs (i + 2) := yrd (k := 2) s0 hL hi (by decide)
  have g12 : ∀ {X : zR}, zgd (zin (iI (i : Int) + 2) (zslen σ1)) X = X := fun {X} => ygd (k := 2) s1 hL hi (by decide)
  have r12 : σ1.1 0 90 (Int32.toNatClampNeg (iI (i : Int) + 2)) = xs (i + 2) := yrd (k := 2) s1 hL hi (by decide)
  have g03 : ∀ {X : zR}, zgd (zin (iI (i : Int) + 3) (zslen σ)) X = X := fun {X} => ygd (k := 3) s0 hL hi (by decide)
  have r03 : σ.1 0 90 (Int32.toNatClampNeg (iI (i : Int) + 3)) = xs (i + 3) := yrd (k := 3) s0 hL hi (by decide)
  have g13 : ∀ {X : zR}, zgd (zin (iI (i : Int) + 3) (zslen σ1)) X = X := fun {X} => ygd (k := 3) s1 hL hi (by decide)
  have r13 : σ1.1 0 90 (Int32.toNatClampNeg (iI (i : Int) + 3)) = xs (i + 3) := yrd (k := 3) s1 hL hi (by decide)
  have K2 := K σ2 j2
  unfold zhd at K2 ⊢
  rw [ezL_1390]
  simp only [g01, r01, g02, r02, g03, r03]
  rw [e1]
  simp only [zbs, g11, r11, g12, r12, g13, r13]
  rw [e2]
  simp only [zbs]
  exact K2
theorem yq_1433 {L i : Nat} {xs : Nat → Int32} {σ : zM} (hL : L ≤ 2560) (hi : i + 5 ≤ L) (h : zJ L xs σ) (K : ∀ τ, zJ L xs τ → zwp (zhd 1581 i τ) (fun a _ _ => a = 1)) : zwp (zhd 1433 i σ) (fun a _ _ => a = 1) := by
  obtain ⟨v, w1, σ1, e1, s1, v2, w2, σ2, e2, j2⟩ := zcl0 (J := 133) (J2 := 258) (as := [.inl (xs (i + 1)), .inl (xs (i + 2))]) (fun x w => by
    have c := zx_133 w (xs (i + 1)).toInt (xs (i + 2)).toInt (t_rn _) (t_rn _)
    rw [iI_t, iI_t] at c
    exact zCall_0 c) (yAi (yAi yA0)) (yAi (yAi yA0)) h
  have s0 := h.1
  have g01 : ∀ {X : zR}, zgd (zin (iI (i : Int) + 1) (zslen σ)) X = X := fun {X} => ygd (k := 1) s0 hL hi (by decide)
  have r01 : σ.1 0 90 (Int32.toNatClampNeg (iI (i : Int) + 1)) = xs (i + 1) := yrd (k := 1) s0 hL hi (by decide)
  have g11 : ∀ {X : zR}, zgd (zin (iI (i : Int) + 1) (zslen σ1)) X = X := fun {X} => ygd (k := 1) s1 hL hi (by decide)
  have r11 : σ1.1 0 90 (Int32.toNatClampNeg (iI (i : Int) + 1)) = xs (i + 1) := yrd (k := 1) s1 hL hi (by decide)
  have g02 : ∀ {X : zR}, zgd (zin (iI (i : Int) + 2) (zslen σ)) X = X := fun {X} => ygd (k := 2) s0 hL hi (by decide)
  have r02 : σ.1 0 90 (Int32.toNatClampNeg (iI (i : Int) + 2)) = xs (i + 2) := yrd (k := 2) s0 hL hi (by decide)
  have g12 : ∀ {X : zR}, zgd (zin (iI (i : Int) + 2) (zslen σ1)) X = X := fun {X} => ygd (k := 2) s1 hL hi (by decide)
  have r12 : σ1.1 0 90 (Int32.toNatClampNeg (iI (i : Int) + 2)) = xs (i + 2) := yrd (k := 2) s1 hL hi (by decide)
  have K2 := K σ2 j2
  unfold zhd at K2 ⊢
  rw [ezL_1433]
  simp only [g01, r01, g02, r02]
  rw [e1]
  simp only [zbs, g11, r11, g12, r12]
  rw [e2]
  simp only [zbs]
  exact K2
theorem yq_1466 {L i : Nat} {xs : Nat → Int32} {σ : zM} (hL : L ≤ 2560) (hi : i + 5 ≤ L) (h : zJ L xs σ) (K : ∀ τ, zJ L xs τ → zwp (zhd 1581 i τ) (fun a _ _ => a = 1)) : zwp (zhd 1466 i σ) (fun a _ _ => a = 1) := by
  obtain ⟨v, w1, σ1, e1, s1, v2, w2, σ2, e2, j2⟩ := zcl0 (J := 134) (J2 := 265) (as := [.inl (xs (i + 1)), .inl (xs (i + 2)), .inl (xs (i + 3))]) (fun x w => by
    have c := zx_134 w (xs (i + 1)).toInt (xs (i + 2)).toInt (xs (i + 3)).toInt (t_rn _) (t_rn _)
    rw [iI_t, iI_t, iI_t] at c
    exact zCall_0 c) (yAi (yAi (yAi yA0))) (yAi (yAi (yAi yA0))) h
  have s0 := h.1
  have g01 : ∀ {X : zR}, zgd (zin (iI (i : Int) + 1) (zslen σ)) X = X := fun {X} => ygd (k := 1) s0 hL hi (by decide)
  have r01 : σ.1 0 90 (Int32.toNatClampNeg (iI (i : Int) + 1)) = xs (i + 1) := yrd (k := 1) s0 hL hi (by decide)
  have g11 : ∀ {X : zR}, zgd (zin (iI (i : Int) + 1) (zslen σ1)) X = X := fun {X} => ygd (k := 1) s1 hL hi (by decide)
  have r11 : σ1.1 0 90 (Int32.toNatClampNeg (iI (i : Int) + 1)) = xs (i + 1) := yrd (k := 1) s1 hL hi (by decide)
  have g02 : ∀ {X : zR}, zgd (zin (iI (i : Int) + 2) (zslen σ)) X = X := fun {X} => ygd (k := 2) s0 hL hi (by decide)
  have r02 : σ.1 0 90 (Int32.toNatClampNeg (iI (i : Int) + 2)) = xs (i + 2) := yrd (k := 2) s0 hL hi (by decide)
  have g12 : ∀ {X : zR}, zgd (zin (iI (i : Int) + 2) (zslen σ1)) X = X := fun {X} => ygd (k := 2) s1 hL hi (by decide)
  have r12 : σ1.1 0 90 (Int32.toNatClampNeg (iI (i : Int) + 2)) = xs (i + 2) := yrd (k := 2) s1 hL hi (by decide)
  have g03 : ∀ {X : zR}, zgd (zin (iI (i : Int) + 3) (zslen σ)) X = X := fun {X} => ygd (k := 3) s0 hL hi (by decide)
  have r03 : σ.1 0 90 (Int32.toNatClampNeg (iI (i : Int) + 3)) = xs (i + 3) := yrd (k := 3) s0 hL hi (by decide)
  have g13 : ∀ {X : zR}, zgd (zin (iI (i : Int) + 3) (zslen σ1)) X = X := fun {X} => ygd (k := 3) s1 hL hi (by decide)
  have r13 : σ1.1 0 90 (Int32.toNatClampNeg (iI (i : Int) + 3)) = xs (i + 3) := yrd (k := 3) s1 hL hi (by decide)
  have K2 := K σ2 j2
  unfold zhd at K2 ⊢
  rw [ezL_1466]
  simp only [g01, r01, g02, r02, g03, r03]
  rw [e1]
  simp only [zbs, g11, r11, g12, r12, g13, r13]
  rw [e2]
  simp only [zbs]
  exact K2
theorem yq_1509 {L i : Nat} {xs : Nat → Int32} {σ : zM} (hL : L ≤ 2560) (hi : i + 5 ≤ L) (h : zJ L xs σ) (K : ∀ τ, zJ L xs τ → zwp (zhd 1581 i τ) (fun a _ _ => a = 1)) : zwp (zhd 1509 i σ) (fun a _ _ => a = 1) := by
  obtain ⟨v, w1, σ1, e1, s1, v2, w2, σ2, e2, j2⟩ := zcl0 (J := 135) (J2 := 267) (as := [.inl (xs (i + 1))]) (fun x w => by
    have c := zx_135 w (xs (i + 1)).toInt (t_rn _)
    rw [iI_t] at c
    exact zCall_0 c) (yAi yA0) (yAi yA0) h
  have s0 := h.1
  have g01 : ∀ {X : zR}, zgd (zin (iI (i : Int) + 1) (zslen σ)) X = X := fun {X} => ygd (k := 1) s0 hL hi (by decide)
  have r01 : σ.1 0 90 (Int32.toNatClampNeg (iI (i : Int) + 1)) = xs (i + 1) := yrd (k := 1) s0 hL hi (by decide)
  have g11 : ∀ {X : zR}, zgd (zin (iI (i : Int) + 1) (zslen σ1)) X = X := fun {X} => ygd (k := 1) s1 hL hi (by decide)
  have r11 : σ1.1 0 90 (Int32.toNatClampNeg (iI (i : Int) + 1)) = xs (i + 1) := yrd (k := 1) s1 hL hi (by decide)
  have K2 := K σ2 j2
  unfold zhd at K2 ⊢
  rw [ezL_1509]
  simp only [g01, r01]
  rw [e1]
  simp only [zbs, g11, r11]
  rw [e2]
  simp only [zbs]
  exact K2
theorem yq_1532 {L i : Nat} {xs : Nat → Int32} {σ : zM} (hL : L ≤ 2560) (hi : i + 5 ≤ L) (h : zJ L xs σ) (K : ∀ τ, zJ L xs τ → zwp (zhd 1581 i τ) (fun a _ _ => a = 1)) : zwp (zhd 1532 i σ) (fun a _ _ => a = 1) := by
  obtain ⟨v, w1, σ1, e1, s1, v2, w2, σ2, e2, j2⟩ := zcl0 (J := 136) (J2 := 268) (as := [.inl (xs (i + 1))]) (fun x w => by
    have c := zx_136 w (xs (i + 1)).toInt (t_rn _)
    rw [iI_t] at c
    exact zCall_0 c) (yAi yA0) (yAi yA0) h
  have s0 := h.1
  have g01 : ∀ {X : zR}, zgd (zin (iI (i : Int) + 1) (zslen σ)) X = X := fun {X} => ygd (k := 1) s0 hL hi (by decide)
  have r01 : σ.1 0 90 (Int32.toNatClampNeg (iI (i : Int) + 1)) = xs (i + 1) := yrd (k := 1) s0 hL hi (by decide)
  have g11 : ∀ {X : zR}, zgd (zin (iI (i : Int) + 1) (zslen σ1)) X = X := fun {X} => ygd (k := 1) s1 hL hi (by decide)
  have r11 : σ1.1 0 90 (Int32.toNatClampNeg (iI (i : Int) + 1)) = xs (i + 1) := yrd (k := 1) s1 hL hi (by decide)
  have K2 := K σ2 j2
  unfold zhd at K2 ⊢
  rw [ezL_1532]
  simp only [g01, r01]
  rw [e1]
  simp only [zbs, g11, r11]
  rw [e2]
  simp only [zbs]
  exact K2
theorem yq_1555 {L i : Nat} {xs : Nat → Int32} {σ : zM} (hL : L ≤ 2560) (hi : i + 5 ≤ L) (h : zJ L xs σ) (K : ∀ τ, zJ L xs τ → zwp (zhd 1581 i τ) (fun a _ _ => a = 1)) : zwp (zhd 1555 i σ) (fun a _ _ => a = 1) := by
  obtain ⟨v, w1, σ1, e1, s1, v2, w2, σ2, e2, j2⟩ := zcl0 (J := 139) (J2 := 269) (as := []) (fun x w => by
    have c := zx_139 w
    exact zCall_0 c) yA0 yA0 h
  have s0 := h.1
  have K2 := K σ2 j2
  unfold zhd at K2 ⊢
  rw [ezL_1555]
  rw [e1]
  simp only [zbs]
  rw [e2]
  simp only [zbs]
  exact K2
theorem yq_1568 {L i : Nat} {xs : Nat → Int32} {σ : zM} (hL : L ≤ 2560) (hi : i + 5 ≤ L) (h : zJ L xs σ) (K : ∀ τ, zJ L xs τ → zwp (zhd 1581 i τ) (fun a _ _ => a = 1)) : zwp (zhd 1568 i σ) (fun a _ _ => a = 1) := by
  obtain ⟨v, w1, σ1, e1, s1, w2, σ2, e2, j2⟩ := zcl1 (J := 140) (J2 := 270) (as := []) (fun x w => by
    have c := zx_140 w
    exact c) yA0 yA0 h
  have s0 := h.1
  have K2 := K σ2 j2
  unfold zhd at K2 ⊢
  rw [ezL_1568]
  rw [e1]
  simp only [zbs]
  rw [e2]
  simp only [zbs, if_true]
  exact K2
theorem yhd {L : Nat} {xs : Nat → Int32} (hL : L ≤ 2560) : ∀ (n i : Nat) (σ : zM), L ≤ i + n → i ≤ L → zJ L xs σ → zwp (zhd 18 i σ) (fun a _ _ => a = 1) := by
  have stop : ∀ (i : Nat) (σ : zM), ¬ i + 5 ≤ L → i ≤ L → zJ L xs σ → zwp (zhd 18 i σ) (fun a _ _ => a = 1) := fun i σ hi hi2 h => by
    unfold zhd
    rw [ezL_18, if_pos (by rw [h.1.1, nI_iI, show (5 : Int32) = iI 5 from rfl, iI_sub, iI_lt (by omega) (by omega)]; omega)]
    exact zwp_gd (by decide) (zwp_some rfl)
  intro n
  induction n with
  | zero => intro i σ hn hi h; exact stop i σ (by omega) hi h
  | succ n ih =>
    intro i σ hn hi h
    by_cases q : i + 5 ≤ L
    case neg => exact stop i σ q hi h
    have K : ∀ τ, zJ L xs τ → zwp (zhd 1581 i τ) (fun a _ _ => a = 1) := fun τ hτ => by
      have c := ih (i + 5) τ (by omega) (by omega) hτ
      have e : iI (i : Int) + 5 = iI ((i + 5 : Nat) : Int) := by rw [show (5 : Int32) = iI 5 from rfl, iI_add]; congr 1
      unfold zhd at c ⊢
      rw [ezL_1581, e]
      exact c
    have Kz := K
    unfold zhd
    rw [ezL_18, if_neg (by rw [h.1.1, nI_iI, show (5 : Int32) = iI 5 from rfl, iI_sub, iI_lt (by omega) (by omega)]; omega)]
    refine zwp_gd (yin h.1 hL (by omega) (by omega)) ?_
    refine zwp_ite (fun _ => yq_244 hL q h K) (fun _ => ?_)
    refine zwp_ite (fun _ => yq_297 hL q h K) (fun _ => ?_)
    refine zwp_ite (fun _ => yq_330 hL q h K) (fun _ => ?_)
    refine zwp_ite (fun _ => yq_373 hL q h K) (fun _ => ?_)
    refine zwp_ite (fun _ => yq_406 hL q h K) (fun _ => ?_)
    refine zwp_ite (fun _ => yq_439 hL q h K) (fun _ => ?_)
    refine zwp_ite (fun _ => yq_502 hL q h K) (fun _ => ?_)
    refine zwp_ite (fun _ => yq_515 hL q h K) (fun _ => ?_)
    refine zwp_ite (fun _ => yq_548 hL q h K) (fun _ => ?_)
    refine zwp_ite (fun _ => yq_581 hL q h K) (fun _ => ?_)
    refine zwp_ite (fun _ => yq_614 hL q h K) (fun _ => ?_)
    refine zwp_ite (fun _ => yq_637 hL q h K) (fun _ => ?_)
    refine zwp_ite (fun _ => yq_650 hL q h K) (fun _ => ?_)
    refine zwp_ite (fun _ => yq_663 hL q h K) (fun _ => ?_)
    refine zwp_ite (fun _ => yq_676 hL q h K) (fun _ => ?_)
    refine zwp_ite (fun _ => yq_689 hL q h K) (fun _ => ?_)
    refine zwp_ite (fun _ => yq_712 hL q h K) (fun _ => ?_)
    refine zwp_ite (fun _ => yq_725 hL q h K) (fun _ => ?_)
    refine zwp_ite (fun _ => yq_748 hL q h K) (fun _ => ?_)
    refine zwp_ite (fun _ => yq_771 hL q h K) (fun _ => ?_)
    refine zwp_ite (fun _ => yq_794 hL q h K) (fun _ => ?_)
    refine zwp_ite (fun _ => yq_807 hL q h K) (fun _ => ?_)
    refine zwp_ite (fun _ => yq_820 hL q h K) (fun _ => ?_)
    refine zwp_ite (fun _ => yq_833 hL q h K) (fun _ => ?_)
    refine zwp_ite (fun _ => yq_866 hL q h K) (fun _ => ?_)
    refine zwp_ite (fun _ => yq_889 hL q h K) (fun _ => ?_)
    refine zwp_ite (fun _ => yq_922 hL q h K) (fun _ => ?_)
    refine zwp_ite (fun _ => yq_955 hL q h K) (fun _ => ?_)
    refine zwp_ite (fun _ => yq_988 hL q h K) (fun _ => ?_)
    refine zwp_ite (fun _ => yq_1001 hL q h K) (fun _ => ?_)
    refine zwp_ite (fun _ => yq_1024 hL q h K) (fun _ => ?_)
    refine zwp_ite (fun _ => yq_1037 hL q h K) (fun _ => ?_)
    refine zwp_ite (fun _ => yq_1060 hL q h K) (fun _ => ?_)
    refine zwp_ite (fun _ => yq_1073 hL q h K) (fun _ => ?_)
    refine zwp_ite (fun _ => yq_1096 hL q h K) (fun _ => ?_)
    refine zwp_ite (fun _ => yq_1119 hL q h K) (fun _ => ?_)
    refine zwp_ite (fun _ => yq_1152 hL q h K) (fun _ => ?_)
    refine zwp_ite (fun _ => yq_1195 hL q h K) (fun _ => ?_)
    refine zwp_ite (fun _ => yq_1208 hL q h K) (fun _ => ?_)
    refine zwp_ite (fun _ => yq_1251 hL q h K) (fun _ => ?_)
    refine zwp_ite (fun _ => yq_1294 hL q h K) (fun _ => ?_)
    refine zwp_ite (fun _ => yq_1337 hL q h K) (fun _ => ?_)
    refine zwp_ite (fun _ => yq_1390 hL q h K) (fun _ => ?_)
    refine zwp_ite (fun _ => yq_1433 hL q h K) (fun _ => ?_)
    refine zwp_ite (fun _ => yq_1466 hL q h K) (fun _ => ?_)
    refine zwp_ite (fun _ => yq_1509 hL q h K) (fun _ => ?_)
    refine zwp_ite (fun _ => yq_1532 hL q h K) (fun _ => ?_)
    refine zwp_ite (fun _ => yq_1555 hL q h K) (fun _ => ?_)
    refine zwp_ite (fun _ => yq_1568 hL q h K) (fun _ => ?_)
    exact K σ h
theorem yall {L : Nat} {xs : Nat → Int32} (hL : L ≤ 2560) : zwp (zrun (zev 64) zT_281 18 zl0 [] (zS0 L xs)) (fun a _ _ => a = 1) :=
  yhd hL L 0 (zS0 L xs) (by omega) (Nat.zero_le _) (zJ_0 L xs)
