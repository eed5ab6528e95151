set_option maxRecDepth 20000
set_option linter.unusedVariables false
/-- X0_take (III)V -/
theorem ez_0 (d : Nat) (p0 : Int32) (p1 : Int32) (p2 : Int32) (σ : zM) : zev (d + 1) 0 [.inr (.inr (0, 49)), .inl p0, .inl p1, .inl p2] σ = (fun C : zC => (zgd (z01 0) (some (0, 0, zwI (zwI (zwI (zwI σ 0 49 3 p0) 0 49 4 p1) 0 49 5 p2) 0 49 2 0)) : zR)) (zev d) :=
  (zev_m (T := zT_0) rfl rfl rfl).trans ((zrun_eq (zev d) zT_0 [] 18 _ _ _ _).trans (by rfl))

/-- X0_begin (I)V -/
theorem ez_1 (d : Nat) (p0 : Int32) (σ : zM) : zev (d + 1) 1 [.inr (.inr (0, 49)), .inl p0] σ = (fun C : zC => (if (σ.1 0 49 2) = 0 then (if (σ.1 0 49 0) < 30 then (zgd (zin (σ.1 0 49 0) 30) (some (0, 0, zwI (zwI σ 0 50 (Int32.toNatClampNeg (σ.1 0 49 0)) p0) 0 49 0 (((zwI σ 0 50 (Int32.toNatClampNeg (σ.1 0 49 0)) p0).1 0 49 0) + 1)))) else (some (0, 0, σ))) else (some (0, 0, σ)) : zR)) (zev d) :=
  (zev_m (T := zT_1) rfl rfl rfl).trans ((zrun_eq (zev d) zT_1 [] 25 _ _ _ _).trans (by rfl))

/-- X0_sways (I)I -/
theorem ez_2 (d : Nat) (p0 : Int32) (σ : zM) : zev (d + 1) 2 [.inr (.inr (0, 49)), .inl p0] σ = (fun C : zC => (if (σ.1 0 49 3) = 1 then ((C 1 [.inr (.inr (0, 49)), .inl 20] σ).bind fun x0 => (C 6 [.inr (.inr (0, 49)), .inl p0] x0.2.2).bind fun x1 => some ((x1.1 * 3), 0, x1.2.2)) else if (σ.1 0 49 3) = 3 then ((C 1 [.inr (.inr (0, 49)), .inl 50] σ).bind fun x2 => (C 6 [.inr (.inr (0, 49)), .inl p0] x2.2.2).bind fun x3 => some ((x3.1 ^^^ (x3.2.2.1 0 49 4)), 0, x3.2.2)) else ((C 6 [.inr (.inr (0, 49)), .inl p0] σ).bind fun x4 => some (x4.1, 0, x4.2.2)) : zR)) (zev d) :=
  (zev_m (T := zT_2) rfl rfl rfl).trans ((zrun_eq (zev d) zT_2 [] 31 _ _ _ _).trans (by rfl))

/-- X0_bends (I)I -/
theorem ez_3 (d : Nat) (p0 : Int32) (σ : zM) : zev (d + 1) 3 [.inr (.inr (0, 49)), .inl p0] σ = (fun C : zC => (if (σ.1 0 49 3) = 2 then ((C 1 [.inr (.inr (0, 49)), .inl 30] σ).bind fun x0 => (C 7 [.inr (.inr (0, 49)), .inl p0] x0.2.2).bind fun x1 => some ((x1.1 - (x1.2.2.1 0 49 5)), 0, x1.2.2)) else if (σ.1 0 49 3) = 3 then ((C 1 [.inr (.inr (0, 49)), .inl 30] σ).bind fun x2 => (C 7 [.inr (.inr (0, 49)), .inl p0] x2.2.2).bind fun x3 => some ((x3.1 - (x3.2.2.1 0 49 5)), 0, x3.2.2)) else if (σ.1 0 49 3) = 4 then ((C 7 [.inr (.inr (0, 49)), .inl p0] σ).bind fun x4 => some (x4.1, 0, x4.2.2)) else if (σ.1 0 49 3) = 5 then ((C 1 [.inr (.inr (0, 49)), .inl 60] σ).bind fun x5 => (C 7 [.inr (.inr (0, 49)), .inl p0] x5.2.2).bind fun x6 => some ((0 - x6.1), 0, x6.2.2)) else ((C 7 [.inr (.inr (0, 49)), .inl p0] σ).bind fun x7 => some (x7.1, 0, x7.2.2)) : zR)) (zev d) :=
  (zev_m (T := zT_3) rfl rfl rfl).trans ((zrun_eq (zev d) zT_3 [] 31 _ _ _ _).trans (by rfl))

/-- X0_shares (I)I -/
theorem ez_4 (d : Nat) (p0 : Int32) (σ : zM) : zev (d + 1) 4 [.inr (.inr (0, 49)), .inl p0] σ = (fun C : zC => (if (σ.1 0 49 3) = 4 then ((C 8 [.inr (.inr (0, 49)), .inl p0] σ).bind fun x0 => some (x0.1, 0, x0.2.2)) else if (σ.1 0 49 3) = 5 then ((C 1 [.inr (.inr (0, 49)), .inl 61] σ).bind fun x1 => (C 8 [.inr (.inr (0, 49)), .inl p0] x1.2.2).bind fun x2 => (C 2 [.inr (.inr (0, 49)), .inl (x2.2.2.1 0 49 5)] x2.2.2).bind fun x3 => some ((x2.1 + x3.1), 0, x3.2.2)) else ((C 9 [.inr (.inr (0, 49)), .inl p0] σ).bind fun x4 => some (x4.1, 0, x4.2.2)) : zR)) (zev d) :=
  (zev_m (T := zT_4) rfl rfl rfl).trans ((zrun_eq (zev d) zT_4 [] 28 _ _ _ _).trans (by rfl))

/-- X0_tells (I)I -/
theorem ez_5 (d : Nat) (p0 : Int32) (σ : zM) : zev (d + 1) 5 [.inr (.inr (0, 49)), .inl p0] σ = (fun C : zC => (if (σ.1 0 49 3) = 3 then ((C 1 [.inr (.inr (0, 49)), .inl 51] σ).bind fun x0 => (C 10 [.inr (.inr (0, 49)), .inl p0] x0.2.2).bind fun x1 => (C 4 [.inr (.inr (0, 49)), .inl (x1.2.2.1 0 49 4)] x1.2.2).bind fun x2 => some ((x1.1 + x2.1), 0, x2.2.2)) else ((C 10 [.inr (.inr (0, 49)), .inl p0] σ).bind fun x3 => some (x3.1, 0, x3.2.2)) : zR)) (zev d) :=
  (zev_m (T := zT_5) rfl rfl rfl).trans ((zrun_eq (zev d) zT_5 [] 25 _ _ _ _).trans (by rfl))

/-- X0_plainSways (I)I -/
theorem ez_6 (d : Nat) (p0 : Int32) (σ : zM) : zev (d + 1) 6 [.inr (.inr (0, 49)), .inl p0] σ = (fun C : zC => ((C 1 [.inr (.inr (0, 49)), .inl 10] σ).bind fun x0 => some ((p0 + (x0.2.2.1 0 49 4)), 0, x0.2.2) : zR)) (zev d) :=
  (zev_m (T := zT_6) rfl rfl rfl).trans ((zrun_eq (zev d) zT_6 [] 13 _ _ _ _).trans (by rfl))

/-- X0_plainBends (I)I -/
theorem ez_7 (d : Nat) (p0 : Int32) (σ : zM) : zev (d + 1) 7 [.inr (.inr (0, 49)), .inl p0] σ = (fun C : zC => ((C 1 [.inr (.inr (0, 49)), .inl 11] σ).bind fun x0 => (C 2 [.inr (.inr (0, 49)), .inl p0] x0.2.2).bind fun x1 => some ((x1.1 * 2), 0, x1.2.2) : zR)) (zev d) :=
  (zev_m (T := zT_7) rfl rfl rfl).trans ((zrun_eq (zev d) zT_7 [] 14 _ _ _ _).trans (by rfl))

/-- X0_proppedShares (I)I -/
theorem ez_8 (d : Nat) (p0 : Int32) (σ : zM) : zev (d + 1) 8 [.inr (.inr (0, 49)), .inl p0] σ = (fun C : zC => ((C 1 [.inr (.inr (0, 49)), .inl 40] σ).bind fun x0 => (C 9 [.inr (.inr (0, 49)), .inl (p0 + 1)] x0.2.2).bind fun x1 => some (x1.1, 0, x1.2.2) : zR)) (zev d) :=
  (zev_m (T := zT_8) rfl rfl rfl).trans ((zrun_eq (zev d) zT_8 [] 14 _ _ _ _).trans (by rfl))

/-- X0_plainShares (I)I -/
theorem ez_9 (d : Nat) (p0 : Int32) (σ : zM) : zev (d + 1) 9 [.inr (.inr (0, 49)), .inl p0] σ = (fun C : zC => ((C 1 [.inr (.inr (0, 49)), .inl 12] σ).bind fun x0 => if (x0.2.2.1 0 49 5) = (x0.2.2.1 0 49 4) then (zgd (z01 1) (some (0, 0, zwI x0.2.2 0 49 2 1))) else (if ((x0.2.2.1 0 49 5) - (x0.2.2.1 0 49 4)) = 0 then none else some ((p0 / ((x0.2.2.1 0 49 5) - (x0.2.2.1 0 49 4))), 0, x0.2.2)) : zR)) (zev d) :=
  (zev_m (T := zT_9) rfl rfl rfl).trans ((zrun_eq (zev d) zT_9 [] 26 _ _ _ _).trans (by rfl))

/-- X0_plainTells (I)I -/
theorem ez_10 (d : Nat) (p0 : Int32) (σ : zM) : zev (d + 1) 10 [.inr (.inr (0, 49)), .inl p0] σ = (fun C : zC => ((C 1 [.inr (.inr (0, 49)), .inl 13] σ).bind fun x0 => (C 3 [.inr (.inr (0, 49)), .inl p0] x0.2.2).bind fun x1 => some ((x1.1 ^^^ (x1.2.2.1 0 49 5)), 0, x1.2.2) : zR)) (zev d) :=
  (zev_m (T := zT_10) rfl rfl rfl).trans ((zrun_eq (zev d) zT_10 [] 15 _ _ _ _).trans (by rfl))

/-- X1_copyFrom (LOakCourt$Boughs;)V -/
theorem ez_11 (d : Nat) (g : Nat) (h0 : Nat) (σ : zM) : zev (d + 1) 11 [.inr (.inr (g, 1)), .inr (.inr (h0, 1))] σ = (fun C : zC => ((C 148 [.inr (.inr (h0, 2)), .inr (.inr (g, 2))] (zwI σ g 1 0 (σ.1 h0 1 0))).bind fun x0 => (C 148 [.inr (.inr (h0, 3)), .inr (.inr (g, 3))] x0.2.2).bind fun x1 => (C 148 [.inr (.inr (h0, 4)), .inr (.inr (g, 4))] x1.2.2).bind fun x2 => (C 148 [.inr (.inr (h0, 5)), .inr (.inr (g, 5))] x2.2.2).bind fun x3 => (C 148 [.inr (.inr (h0, 6)), .inr (.inr (g, 6))] x3.2.2).bind fun x4 => (C 63 [.inr (.inr (g, 7)), .inr (.inr (h0, 7))] (zwI (zwI (zwI x4.2.2 g 1 6 (x4.2.2.1 h0 1 6)) g 1 7 ((zwI x4.2.2 g 1 6 (x4.2.2.1 h0 1 6)).1 h0 1 7)) g 1 8 ((zwI (zwI x4.2.2 g 1 6 (x4.2.2.1 h0 1 6)) g 1 7 ((zwI x4.2.2 g 1 6 (x4.2.2.1 h0 1 6)).1 h0 1 7)).1 h0 1 8))).bind fun x5 => some (0, 0, x5.2.2) : zR)) (zev d) :=
  (zev_m (T := zT_11) rfl rfl rfl).trans ((zrun_eq (zev d) zT_11 [] 52 _ _ _ _).trans (by rfl))

/-- X1_grow (IIII)I -/
theorem ez_12 (d : Nat) (g : Nat) (p0 : Int32) (p1 : Int32) (p2 : Int32) (p3 : Int32) (σ : zM) : zev (d + 1) 12 [.inr (.inr (g, 1)), .inl p0, .inl p1, .inl p2, .inl p3] σ = (fun C : zC => (zgd (zin (σ.1 g 1 0) 9) (zgd (zin (σ.1 g 1 0) 9) (zgd (zin (σ.1 g 1 0) 9) (zgd (zin (σ.1 g 1 0) 9) ((C 13 [.inr (.inr (g, 1)), .inl p1] (zwI (zwI (zwI (zwI σ g 2 (Int32.toNatClampNeg (σ.1 g 1 0)) p0) g 3 (Int32.toNatClampNeg (σ.1 g 1 0)) p1) g 4 (Int32.toNatClampNeg (σ.1 g 1 0)) p2) g 5 (Int32.toNatClampNeg (σ.1 g 1 0)) p3)).bind fun x0 => if x0.1 = 0 then (zgd (zin (σ.1 g 1 0) 9) (some ((σ.1 g 1 0), 0, zwI (zwI x0.2.2 g 6 (Int32.toNatClampNeg (σ.1 g 1 0)) ((1 <<< ((σ.1 g 1 0) &&& 31)) ||| 0)) g 1 0 (((zwI x0.2.2 g 6 (Int32.toNatClampNeg (σ.1 g 1 0)) ((1 <<< ((σ.1 g 1 0) &&& 31)) ||| 0)).1 g 1 0) + 1)))) else (zgd (zin p1 9) (zgd (zin (σ.1 g 1 0) 9) (some ((σ.1 g 1 0), 0, zwI (zwI x0.2.2 g 6 (Int32.toNatClampNeg (σ.1 g 1 0)) ((1 <<< ((σ.1 g 1 0) &&& 31)) ||| (x0.2.2.1 g 6 (Int32.toNatClampNeg p1)))) g 1 0 (((zwI x0.2.2 g 6 (Int32.toNatClampNeg (σ.1 g 1 0)) ((1 <<< ((σ.1 g 1 0) &&& 31)) ||| (x0.2.2.1 g 6 (Int32.toNatClampNeg p1)))).1 g 1 0) + 1))))))))) : zR)) (zev d) :=
  (zev_m (T := zT_12) rfl rfl rfl).trans ((zrun_eq (zev d) zT_12 [] 54 _ _ _ _).trans (by rfl))

/-- X1_isThere (I)Z -/
theorem ez_13 (d : Nat) (g : Nat) (p0 : Int32) (σ : zM) : zev (d + 1) 13 [.inr (.inr (g, 1)), .inl p0] σ = (fun C : zC => (if p0 < 0 then (zgd (zret 3 0) (some (0, 0, σ))) else (if p0 < (σ.1 g 1 0) then (zgd (zret 3 1) (some (1, 0, σ))) else (zgd (zret 3 0) (some (0, 0, σ)))) : zR)) (zev d) :=
  (zev_m (T := zT_13) rfl rfl rfl).trans ((zrun_eq (zev d) zT_13 [] 15 _ _ _ _).trans (by rfl))

/-- X1_isWhole (I)Z -/
theorem ez_14 (d : Nat) (g : Nat) (p0 : Int32) (σ : zM) : zev (d + 1) 14 [.inr (.inr (g, 1)), .inl p0] σ = (fun C : zC => ((C 13 [.inr (.inr (g, 1)), .inl p0] σ).bind fun x0 => if x0.1 = 0 then (zgd (zret 3 0) (some (0, 0, x0.2.2))) else ((C 145 [.inl (x0.2.2.1 g 1 6), .inl p0] x0.2.2).bind fun x1 => if x1.1 = 0 then (zgd (zret 3 1) (some (1, 0, x1.2.2))) else (zgd (zret 3 0) (some (0, 0, x1.2.2)))) : zR)) (zev d) :=
  (zev_m (T := zT_14) rfl rfl rfl).trans ((zrun_eq (zev d) zT_14 [] 18 _ _ _ _).trans (by rfl))

/-- X1_isAbove (II)Z -/
theorem ez_15 (d : Nat) (g : Nat) (p0 : Int32) (p1 : Int32) (σ : zM) : zev (d + 1) 15 [.inr (.inr (g, 1)), .inl p0, .inl p1] σ = (fun C : zC => ((C 13 [.inr (.inr (g, 1)), .inl p0] σ).bind fun x0 => if x0.1 = 0 then (zgd (zret 3 0) (some (0, 0, x0.2.2))) else (zgd (zin p0 9) ((C 145 [.inl (x0.2.2.1 g 6 (Int32.toNatClampNeg p0)), .inl p1] x0.2.2).bind fun x1 => if x1.1 = 0 then (zgd (zret 3 0) (some (0, 0, x1.2.2))) else (zgd (zret 3 1) (some (1, 0, x1.2.2))))) : zR)) (zev d) :=
  (zev_m (T := zT_15) rfl rfl rfl).trans ((zrun_eq (zev d) zT_15 [] 20 _ _ _ _).trans (by rfl))

/-- X1_holdsNow (I)I -/
theorem ez_16 (d : Nat) (g : Nat) (p0 : Int32) (σ : zM) : zev (d + 1) 16 [.inr (.inr (g, 1)), .inl p0] σ = (fun C : zC => (zgd (zin p0 9) (zgd (zin p0 9) ((C 64 [.inr (.inr (g, 7)), .inl (σ.1 g 1 7), .inl (σ.1 g 1 8), .inl (σ.1 g 4 (Int32.toNatClampNeg p0)), .inl (σ.1 g 5 (Int32.toNatClampNeg p0)), .inl p0] σ).bind fun x0 => zgd (zin p0 9) ((C 65 [.inr (.inr (g, 7)), .inl (x0.2.2.1 g 2 (Int32.toNatClampNeg p0))] x0.2.2).bind fun x1 => zgd (zin p0 9) (if (x1.2.2.1 g 2 (Int32.toNatClampNeg p0)) = 1 then (some ((x1.1 + (10 * (x1.2.2.1 g 1 7))), 0, x1.2.2)) else if (x1.2.2.1 g 2 (Int32.toNatClampNeg p0)) = 2 then (some ((x1.1 / 2), 0, x1.2.2)) else if (x1.2.2.1 g 2 (Int32.toNatClampNeg p0)) = 3 then (zgd (zin p0 9) ((C 272 [.inl 0, .inl ((x1.1 / 2) - (x1.2.2.1 g 4 (Int32.toNatClampNeg p0)))] x1.2.2).bind fun x2 => some (x2.1, 0, x2.2.2))) else if (x1.2.2.1 g 2 (Int32.toNatClampNeg p0)) = 4 then (some ((x1.1 + 50), 0, x1.2.2)) else (some ((2 * (x1.1 + 50)), 0, x1.2.2)))))) : zR)) (zev d) :=
  (zev_m (T := zT_16) rfl rfl rfl).trans ((zrun_eq (zev d) zT_16 [] 66 _ _ _ _).trans (by rfl))

/-- X2_lay (III)V -/
theorem ez_17 (d : Nat) (p0 : Int32) (p1 : Int32) (p2 : Int32) (σ : zM) : zev (d + 1) 17 [.inr (.inr (0, 41)), .inl p0, .inl p1, .inl p2] σ = (fun C : zC => (zgd (zin p0 4) (zgd (zin p0 4) (zrun C zT_17 17 [some (.inr (.inr (0, 41))), some (.inl p0), some (.inl p1), some (.inl p2), some (.inl 0)] [] (zwI (zwI σ 0 42 (Int32.toNatClampNeg p0) p1) 0 43 (Int32.toNatClampNeg p0) p2))) : zR)) (zev d) :=
  (zev_m (T := zT_17) rfl rfl rfl).trans ((zrun_eq (zev d) zT_17 [17] 30 _ _ _ _).trans (by rfl))
theorem ez_17_17 (C : zC) (a1 : Int32) (d2 : Option zV) (d3 : Option zV) (a4 : Int32) (σ : zM) : zrun C zT_17 17 [some (.inr (.inr (0, 41))), some (.inl a1), d2, d3, some (.inl a4)] [] σ = if a4 < 40 then (zgd (zin a1 4) (zgd (zin a4 40) (zrun C zT_17 17 [some (.inr (.inr (0, 41))), some (.inl a1), none, none, some (.inl (a4 + 1))] [] (zwL σ (Int32.toNatClampNeg a1) 45 (Int32.toNatClampNeg a4) 0)))) else (some (0, 0, σ)) :=
  (zrun_eq C zT_17 [17] 30 _ _ _ _).trans (by rfl)

/-- X2_refusalOf (II)I -/
theorem ez_18 (d : Nat) (p0 : Int32) (p1 : Int32) (σ : zM) : zev (d + 1) 18 [.inr (.inr (0, 41)), .inl p0, .inl p1] σ = (fun C : zC => (zgd (zin p0 4) (if (σ.1 0 42 (Int32.toNatClampNeg p0)) = (-1) then (some ((-11), 0, σ)) else (zgd (zin p0 4) (if (σ.1 0 42 (Int32.toNatClampNeg p0)) = p1 then (some (0, 0, σ)) else (some ((-13), 0, σ))))) : zR)) (zev d) :=
  (zev_m (T := zT_18) rfl rfl rfl).trans ((zrun_eq (zev d) zT_18 [] 23 _ _ _ _).trans (by rfl))

/-- X2_hasItem (II)Z -/
theorem ez_19 (d : Nat) (p0 : Int32) (p1 : Int32) (σ : zM) : zev (d + 1) 19 [.inr (.inr (0, 41)), .inl p0, .inl p1] σ = (fun C : zC => (if p1 < 0 then (zgd (zret 3 0) (some (0, 0, σ))) else (zgd (zin p0 4) (if p1 < (σ.1 0 43 (Int32.toNatClampNeg p0)) then (zgd (zret 3 1) (some (1, 0, σ))) else (zgd (zret 3 0) (some (0, 0, σ))))) : zR)) (zev d) :=
  (zev_m (T := zT_19) rfl rfl rfl).trans ((zrun_eq (zev d) zT_19 [] 17 _ _ _ _).trans (by rfl))

/-- X2_shelveBough (II)V -/
theorem ez_20 (d : Nat) (p0 : Int32) (p1 : Int32) (σ : zM) : zev (d + 1) 20 [.inr (.inr (0, 41)), .inl p0, .inl p1] σ = (fun C : zC => (zgd (zin p0 4) (zgd (zin p0 4) (some (0, 0, zwI (zwI σ 0 46 (Int32.toNatClampNeg p0) 1) 0 47 (Int32.toNatClampNeg p0) p1))) : zR)) (zev d) :=
  (zev_m (T := zT_20) rfl rfl rfl).trans ((zrun_eq (zev d) zT_20 [] 16 _ _ _ _).trans (by rfl))

/-- X2_shelveRow (II)V -/
theorem ez_21 (d : Nat) (p0 : Int32) (p1 : Int32) (σ : zM) : zev (d + 1) 21 [.inr (.inr (0, 41)), .inl p0, .inl p1] σ = (fun C : zC => (zgd (zin p1 4) (if (σ.1 0 42 (Int32.toNatClampNeg p1)) = (-1) then (zrun C zT_21 20 [some (.inr (.inr (0, 41))), some (.inl p0), some (.inl p1)] [.inl 0, .inl p0, .inr (.inr (0, 46))] σ) else (zrun C zT_21 20 [some (.inr (.inr (0, 41))), some (.inl p0), some (.inl p1)] [.inl 2, .inl p0, .inr (.inr (0, 46))] σ)) : zR)) (zev d) :=
  (zev_m (T := zT_21) rfl rfl rfl).trans ((zrun_eq (zev d) zT_21 [20] 35 _ _ _ _).trans (by rfl))
theorem ez_21_20 (C : zC) (a1 : Int32) (a2 : Int32) (s0 : Int32) (s1 : Int32) (σ : zM) : zrun C zT_21 20 [some (.inr (.inr (0, 41))), some (.inl a1), some (.inl a2)] [.inl s0, .inl s1, .inr (.inr (0, 46))] σ = zgd (zin s1 4) (zgd (zin a2 4) (zgd (zin a1 4) (zgd (zin a2 4) (zgd (zin a1 4) (some (0, 0, zwI (zwI (zwI σ 0 46 (Int32.toNatClampNeg s1) s0) 0 47 (Int32.toNatClampNeg a1) ((zwI σ 0 46 (Int32.toNatClampNeg s1) s0).1 0 43 (Int32.toNatClampNeg a2))) 0 48 (Int32.toNatClampNeg a1) ((zwI (zwI σ 0 46 (Int32.toNatClampNeg s1) s0) 0 47 (Int32.toNatClampNeg a1) ((zwI σ 0 46 (Int32.toNatClampNeg s1) s0).1 0 43 (Int32.toNatClampNeg a2))).1 0 42 (Int32.toNatClampNeg a2)))))))) :=
  (zrun_eq C zT_21 [20] 35 _ _ _ _).trans (by rfl)

/-- X2_clear (I)V -/
theorem ez_22 (d : Nat) (p0 : Int32) (σ : zM) : zev (d + 1) 22 [.inr (.inr (0, 41)), .inl p0] σ = (fun C : zC => (zgd (zin p0 4) (some (0, 0, zwI σ 0 46 (Int32.toNatClampNeg p0) 0)) : zR)) (zev d) :=
  (zev_m (T := zT_22) rfl rfl rfl).trans ((zrun_eq (zev d) zT_22 [] 11 _ _ _ _).trans (by rfl))

/-- X2_isBough (I)Z -/
theorem ez_23 (d : Nat) (p0 : Int32) (σ : zM) : zev (d + 1) 23 [.inr (.inr (0, 41)), .inl p0] σ = (fun C : zC => (zgd (zin p0 4) (if (σ.1 0 46 (Int32.toNatClampNeg p0)) = 1 then (zgd (zret 3 1) (some (1, 0, σ))) else (zgd (zret 3 0) (some (0, 0, σ)))) : zR)) (zev d) :=
  (zev_m (T := zT_23) rfl rfl rfl).trans ((zrun_eq (zev d) zT_23 [] 15 _ _ _ _).trans (by rfl))

/-- X2_isRow (I)Z -/
theorem ez_24 (d : Nat) (p0 : Int32) (σ : zM) : zev (d + 1) 24 [.inr (.inr (0, 41)), .inl p0] σ = (fun C : zC => (zgd (zin p0 4) (if (σ.1 0 46 (Int32.toNatClampNeg p0)) = 2 then (zgd (zret 3 1) (some (1, 0, σ))) else (zgd (zret 3 0) (some (0, 0, σ)))) : zR)) (zev d) :=
  (zev_m (T := zT_24) rfl rfl rfl).trans ((zrun_eq (zev d) zT_24 [] 15 _ _ _ _).trans (by rfl))

/-- X3_copyFrom (LOakCourt$Oak;)V -/
theorem ez_25 (d : Nat) (g : Nat) (h0 : Nat) (σ : zM) : zev (d + 1) 25 [.inr (.inr (g, 0)), .inr (.inr (h0, 0))] σ = (fun C : zC => ((C 11 [.inr (.inr (g, 1)), .inr (.inr (h0, 1))] σ).bind fun x0 => (C 35 [.inr (.inr (g, 15)), .inr (.inr (h0, 15))] x0.2.2).bind fun x1 => (C 40 [.inr (.inr (g, 19)), .inr (.inr (h0, 19))] x1.2.2).bind fun x2 => some (0, 0, zwI x2.2.2 g 0 3 (x2.2.2.1 h0 0 3)) : zR)) (zev d) :=
  (zev_m (T := zT_25) rfl rfl rfl).trans ((zrun_eq (zev d) zT_25 [] 25 _ _ _ _).trans (by rfl))

/-- X3_bears (I)I -/
theorem ez_26 (d : Nat) (g : Nat) (p0 : Int32) (σ : zM) : zev (d + 1) 26 [.inr (.inr (g, 0)), .inl p0] σ = (fun C : zC => (zgd (zin p0 9) (zrun C zT_26 20 [some (.inr (.inr (g, 0))), some (.inl p0), some (.inl ((σ.1 g 1 8) * (σ.1 g 4 (Int32.toNatClampNeg p0)))), some (.inl 0)] [] σ) : zR)) (zev d) :=
  (zev_m (T := zT_26) rfl rfl rfl).trans ((zrun_eq (zev d) zT_26 [20] 44 _ _ _ _).trans (by rfl))
theorem ez_26_20 (C : zC) (g : Nat) (a1 : Int32) (a2 : Int32) (a3 : Int32) (σ : zM) : zrun C zT_26 20 [some (.inr (.inr (g, 0))), some (.inl a1), some (.inl a2), some (.inl a3)] [] σ = if a3 < (σ.1 g 15 0) then (zgd (zin a3 8) ((C 15 [.inr (.inr (g, 1)), .inl (σ.1 g 18 (Int32.toNatClampNeg a3)), .inl a1] σ).bind fun x0 => if x0.1 = 0 then (zrun C zT_26 20 [some (.inr (.inr (g, 0))), some (.inl a1), some (.inl a2), some (.inl (a3 + 1))] [] x0.2.2) else (zgd (zin a3 8) (zrun C zT_26 20 [some (.inr (.inr (g, 0))), some (.inl a1), some (.inl (a2 + (x0.2.2.1 g 16 (Int32.toNatClampNeg a3)))), some (.inl (a3 + 1))] [] x0.2.2)))) else (some (a2, 0, σ)) :=
  (zrun_eq C zT_26 [20] 44 _ _ _ _).trans (by rfl)

/-- X3_measure ()V -/
theorem ez_27 (d : Nat) (g : Nat) (σ : zM) : zev (d + 1) 27 [.inr (.inr (g, 0))] σ = (fun C : zC => (zrun C zT_27 2 [some (.inr (.inr (g, 0))), some (.inl 0)] [] σ : zR)) (zev d) :=
  (zev_m (T := zT_27) rfl rfl rfl).trans ((zrun_eq (zev d) zT_27 [2] 27 _ _ _ _).trans (by rfl))
theorem ez_27_2 (C : zC) (g : Nat) (a1 : Int32) (σ : zM) : zrun C zT_27 2 [some (.inr (.inr (g, 0))), some (.inl a1)] [] σ = if a1 < (σ.1 g 1 0) then ((C 16 [.inr (.inr (g, 1)), .inl a1] σ).bind fun x0 => (C 26 [.inr (.inr (g, 0)), .inl a1] x0.2.2).bind fun x1 => zgd (zin a1 9) (zrun C zT_27 2 [some (.inr (.inr (g, 0))), some (.inl (a1 + 1))] [] (zwI x1.2.2 g 22 (Int32.toNatClampNeg a1) (x0.1 - x1.1)))) else (some (0, 0, σ)) :=
  (zrun_eq C zT_27 [2] 27 _ _ _ _).trans (by rfl)

/-- X3_load (II)V -/
theorem ez_28 (d : Nat) (g : Nat) (p0 : Int32) (p1 : Int32) (σ : zM) : zev (d + 1) 28 [.inr (.inr (g, 0)), .inl p0, .inl p1] σ = (fun C : zC => (zrun C zT_28 2 [some (.inr (.inr (g, 0))), some (.inl p0), some (.inl p1), some (.inl 0)] [] σ : zR)) (zev d) :=
  (zev_m (T := zT_28) rfl rfl rfl).trans ((zrun_eq (zev d) zT_28 [2] 29 _ _ _ _).trans (by rfl))
theorem ez_28_2 (C : zC) (g : Nat) (a1 : Int32) (a2 : Int32) (a3 : Int32) (σ : zM) : zrun C zT_28 2 [some (.inr (.inr (g, 0))), some (.inl a1), some (.inl a2), some (.inl a3)] [] σ = if a3 < (σ.1 g 1 0) then ((C 15 [.inr (.inr (g, 1)), .inl a1, .inl a3] σ).bind fun x0 => if x0.1 = 0 then (zrun C zT_28 2 [some (.inr (.inr (g, 0))), some (.inl a1), some (.inl a2), some (.inl (a3 + 1))] [] x0.2.2) else (zgd (zin a3 9) (zgd (zin a3 9) (zrun C zT_28 2 [some (.inr (.inr (g, 0))), some (.inl a1), some (.inl a2), some (.inl (a3 + 1))] [] (zwI x0.2.2 g 22 (Int32.toNatClampNeg a3) ((x0.2.2.1 g 22 (Int32.toNatClampNeg a3)) - a2)))))) else (some (0, 0, σ)) :=
  (zrun_eq C zT_28 [2] 29 _ _ _ _).trans (by rfl)

/-- X3_cracking ()I -/
theorem ez_29 (d : Nat) (g : Nat) (σ : zM) : zev (d + 1) 29 [.inr (.inr (g, 0))] σ = (fun C : zC => (zrun C zT_29 4 [some (.inr (.inr (g, 0))), some (.inl 0), some (.inl 0)] [] σ : zR)) (zev d) :=
  (zev_m (T := zT_29) rfl rfl rfl).trans ((zrun_eq (zev d) zT_29 [4] 34 _ _ _ _).trans (by rfl))
theorem ez_29_4 (C : zC) (g : Nat) (a1 : Int32) (a2 : Int32) (σ : zM) : zrun C zT_29 4 [some (.inr (.inr (g, 0))), some (.inl a1), some (.inl a2)] [] σ = if a2 < (σ.1 g 1 0) then (zgd (zin a2 9) (if (σ.1 g 22 (Int32.toNatClampNeg a2)) < 0 then ((C 14 [.inr (.inr (g, 1)), .inl a2] σ).bind fun x0 => if x0.1 = 0 then (zrun C zT_29 4 [some (.inr (.inr (g, 0))), some (.inl a1), some (.inl (a2 + 1))] [] x0.2.2) else (zrun C zT_29 4 [some (.inr (.inr (g, 0))), some (.inl (a1 ||| (1 <<< (a2 &&& 31)))), some (.inl (a2 + 1))] [] x0.2.2)) else (zrun C zT_29 4 [some (.inr (.inr (g, 0))), some (.inl a1), some (.inl (a2 + 1))] [] σ))) else (some (a1, 0, σ)) :=
  (zrun_eq C zT_29 [4] 34 _ _ _ _).trans (by rfl)

/-- X3_stateOf (I)I -/
theorem ez_30 (d : Nat) (g : Nat) (p0 : Int32) (σ : zM) : zev (d + 1) 30 [.inr (.inr (g, 0)), .inl p0] σ = (fun C : zC => ((C 14 [.inr (.inr (g, 1)), .inl p0] σ).bind fun x0 => if x0.1 = 0 then (some (2, 0, x0.2.2)) else ((C 26 [.inr (.inr (g, 0)), .inl p0] x0.2.2).bind fun x1 => (C 16 [.inr (.inr (g, 1)), .inl p0] x1.2.2).bind fun x2 => if x2.1 < x1.1 then (some (1, 0, x2.2.2)) else (some (0, 0, x2.2.2))) : zR)) (zev d) :=
  (zev_m (T := zT_30) rfl rfl rfl).trans ((zrun_eq (zev d) zT_30 [] 24 _ _ _ _).trans (by rfl))

/-- X3_leastSpare ()I -/
theorem ez_31 (d : Nat) (g : Nat) (σ : zM) : zev (d + 1) 31 [.inr (.inr (g, 0))] σ = (fun C : zC => (zrun C zT_31 5 [some (.inr (.inr (g, 0))), some (.inl (-9)), some (.inl 0)] [] σ : zR)) (zev d) :=
  (zev_m (T := zT_31) rfl rfl rfl).trans ((zrun_eq (zev d) zT_31 [5] 37 _ _ _ _).trans (by rfl))
theorem ez_31_5 (C : zC) (g : Nat) (a1 : Int32) (a2 : Int32) (σ : zM) : zrun C zT_31 5 [some (.inr (.inr (g, 0))), some (.inl a1), some (.inl a2)] [] σ = if a2 < (σ.1 g 1 0) then ((C 14 [.inr (.inr (g, 1)), .inl a2] σ).bind fun x0 => if x0.1 = 0 then (zrun C zT_31 5 [some (.inr (.inr (g, 0))), some (.inl a1), some (.inl (a2 + 1))] [] x0.2.2) else (if a1 = (-9) then (zrun C zT_31 5 [some (.inr (.inr (g, 0))), some (.inl a2), some (.inl (a2 + 1))] [] x0.2.2) else (zgd (zin a2 9) (zgd (zin a1 9) (if (x0.2.2.1 g 22 (Int32.toNatClampNeg a2)) < (x0.2.2.1 g 22 (Int32.toNatClampNeg a1)) then (zrun C zT_31 5 [some (.inr (.inr (g, 0))), some (.inl a2), some (.inl (a2 + 1))] [] x0.2.2) else (zrun C zT_31 5 [some (.inr (.inr (g, 0))), some (.inl a1), some (.inl (a2 + 1))] [] x0.2.2)))))) else (some (a1, 0, σ)) :=
  (zrun_eq C zT_31 [5] 37 _ _ _ _).trans (by rfl)

/-- X3_roomOn (I)I -/
theorem ez_32 (d : Nat) (g : Nat) (p0 : Int32) (σ : zM) : zev (d + 1) 32 [.inr (.inr (g, 0)), .inl p0] σ = (fun C : zC => (zgd (zin p0 9) (zrun C zT_32 9 [some (.inr (.inr (g, 0))), some (.inl p0), some (.inl (σ.1 g 22 (Int32.toNatClampNeg p0))), some (.inl 0)] [] σ) : zR)) (zev d) :=
  (zev_m (T := zT_32) rfl rfl rfl).trans ((zrun_eq (zev d) zT_32 [9] 36 _ _ _ _).trans (by rfl))
theorem ez_32_9 (C : zC) (g : Nat) (a1 : Int32) (a2 : Int32) (a3 : Int32) (σ : zM) : zrun C zT_32 9 [some (.inr (.inr (g, 0))), some (.inl a1), some (.inl a2), some (.inl a3)] [] σ = if a3 < (σ.1 g 1 0) then ((C 15 [.inr (.inr (g, 1)), .inl a1, .inl a3] σ).bind fun x0 => if x0.1 = 0 then (zrun C zT_32 9 [some (.inr (.inr (g, 0))), some (.inl a1), some (.inl a2), some (.inl (a3 + 1))] [] x0.2.2) else (zgd (zin a3 9) ((C 273 [.inl a2, .inl (x0.2.2.1 g 22 (Int32.toNatClampNeg a3))] x0.2.2).bind fun x1 => zrun C zT_32 9 [some (.inr (.inr (g, 0))), some (.inl a1), some (.inl x1.1), some (.inl (a3 + 1))] [] x1.2.2))) else ((C 272 [.inl 0, .inl a2] σ).bind fun x2 => some (x2.1, 0, x2.2.2)) :=
  (zrun_eq C zT_32 [9] 36 _ _ _ _).trans (by rfl)

/-- X3_breakDown ()I -/
theorem ez_33 (d : Nat) (g : Nat) (σ : zM) : zev (d + 1) 33 [.inr (.inr (g, 0))] σ = (fun C : zC => ((C 27 [.inr (.inr (g, 0))] σ).bind fun x0 => zrun C zT_33 8 [some (.inr (.inr (g, 0))), some (.inl 0), some (.inl 0), none] [] x0.2.2 : zR)) (zev d) :=
  (zev_m (T := zT_33) rfl rfl rfl).trans ((zrun_eq (zev d) zT_33 [8] 37 _ _ _ _).trans (by rfl))
theorem ez_33_8 (C : zC) (g : Nat) (a1 : Int32) (a2 : Int32) (d3 : Option zV) (σ : zM) : zrun C zT_33 8 [some (.inr (.inr (g, 0))), some (.inl a1), some (.inl a2), d3] [] σ = if a2 < 9 then ((C 31 [.inr (.inr (g, 0))] σ).bind fun x0 => if x0.1 = (-9) then (some (a1, 0, x0.2.2)) else (zgd (zin x0.1 9) (if (x0.2.2.1 g 22 (Int32.toNatClampNeg x0.1)) < 0 then ((C 34 [.inr (.inr (g, 0)), .inl x0.1] x0.2.2).bind fun x1 => zrun C zT_33 8 [some (.inr (.inr (g, 0))), some (.inl (a1 + x1.1)), some (.inl (a2 + 1)), some (.inl x0.1)] [] x1.2.2) else (some (a1, 0, x0.2.2))))) else (some (a1, 0, σ)) :=
  (zrun_eq C zT_33 [8] 37 _ _ _ _).trans (by rfl)

/-- X3_breakOff (I)I -/
theorem ez_34 (d : Nat) (g : Nat) (p0 : Int32) (σ : zM) : zev (d + 1) 34 [.inr (.inr (g, 0)), .inl p0] σ = (fun C : zC => (zrun C zT_34 2 [some (.inr (.inr (g, 0))), some (.inl p0), some (.inl 0), none, none] [] σ : zR)) (zev d) :=
  (zev_m (T := zT_34) rfl rfl rfl).trans ((zrun_eq (zev d) zT_34 [2, 50] 71 _ _ _ _).trans (by rfl))
theorem ez_34_2 (C : zC) (g : Nat) (a1 : Int32) (a2 : Int32) (d3 : Option zV) (d4 : Option zV) (σ : zM) : zrun C zT_34 2 [some (.inr (.inr (g, 0))), some (.inl a1), some (.inl a2), d3, d4] [] σ = if a2 < (σ.1 g 1 0) then ((C 15 [.inr (.inr (g, 1)), .inl a2, .inl a1] σ).bind fun x0 => if x0.1 = 0 then (zrun C zT_34 2 [some (.inr (.inr (g, 0))), some (.inl a1), some (.inl (a2 + 1)), none, none] [] x0.2.2) else (zrun C zT_34 2 [some (.inr (.inr (g, 0))), some (.inl a1), some (.inl (a2 + 1)), none, none] [] (zwI x0.2.2 g 1 6 ((x0.2.2.1 g 1 6) ||| (1 <<< (a2 &&& 31)))))) else (zrun C zT_34 50 [some (.inr (.inr (g, 0))), some (.inl a1), some (.inl 0), some (.inl 0), none] [] σ) :=
  (zrun_eq C zT_34 [2, 50] 71 _ _ _ _).trans (by rfl)
theorem ez_34_50 (C : zC) (g : Nat) (a1 : Int32) (a2 : Int32) (a3 : Int32) (d4 : Option zV) (σ : zM) : zrun C zT_34 50 [some (.inr (.inr (g, 0))), some (.inl a1), some (.inl a2), some (.inl a3), d4] [] σ = if a3 < (σ.1 g 15 0) then (zgd (zin a3 8) ((C 15 [.inr (.inr (g, 1)), .inl (σ.1 g 18 (Int32.toNatClampNeg a3)), .inl a1] σ).bind fun x0 => if x0.1 = 0 then (zrun C zT_34 50 [some (.inr (.inr (g, 0))), some (.inl a1), some (.inl a2), some (.inl (a3 + 1)), some (.inl (σ.1 g 18 (Int32.toNatClampNeg a3)))] [] x0.2.2) else (zgd (zin a3 8) ((C 28 [.inr (.inr (g, 0)), .inl (σ.1 g 18 (Int32.toNatClampNeg a3)), .inl (-(x0.2.2.1 g 16 (Int32.toNatClampNeg a3)))] x0.2.2).bind fun x1 => zgd (zin a3 8) (zrun C zT_34 50 [some (.inr (.inr (g, 0))), some (.inl a1), some (.inl (a2 + 1)), some (.inl (a3 + 1)), some (.inl (σ.1 g 18 (Int32.toNatClampNeg a3)))] [] (zwI x1.2.2 g 18 (Int32.toNatClampNeg a3) (-9))))))) else (some (a2, 0, σ)) :=
  (zrun_eq C zT_34 [2, 50] 71 _ _ _ _).trans (by rfl)

/-- X4_copyFrom (LOakCourt$People;)V -/
theorem ez_35 (d : Nat) (g : Nat) (h0 : Nat) (σ : zM) : zev (d + 1) 35 [.inr (.inr (g, 15)), .inr (.inr (h0, 15))] σ = (fun C : zC => ((C 148 [.inr (.inr (h0, 16)), .inr (.inr (g, 16))] (zwI σ g 15 0 (σ.1 h0 15 0))).bind fun x0 => (C 148 [.inr (.inr (h0, 17)), .inr (.inr (g, 17))] x0.2.2).bind fun x1 => (C 148 [.inr (.inr (h0, 18)), .inr (.inr (g, 18))] x1.2.2).bind fun x2 => some (0, 0, x2.2.2) : zR)) (zev d) :=
  (zev_m (T := zT_35) rfl rfl rfl).trans ((zrun_eq (zev d) zT_35 [] 25 _ _ _ _).trans (by rfl))

/-- X4_join (II)I -/
theorem ez_36 (d : Nat) (g : Nat) (p0 : Int32) (p1 : Int32) (σ : zM) : zev (d + 1) 36 [.inr (.inr (g, 15)), .inl p0, .inl p1] σ = (fun C : zC => (zgd (zin (σ.1 g 15 0) 8) (zgd (zin (σ.1 g 15 0) 8) (zgd (zin (σ.1 g 15 0) 8) (some ((σ.1 g 15 0), 0, zwI (zwI (zwI (zwI σ g 16 (Int32.toNatClampNeg (σ.1 g 15 0)) p0) g 17 (Int32.toNatClampNeg (σ.1 g 15 0)) p1) g 18 (Int32.toNatClampNeg (σ.1 g 15 0)) (-9)) g 15 0 (((zwI (zwI (zwI σ g 16 (Int32.toNatClampNeg (σ.1 g 15 0)) p0) g 17 (Int32.toNatClampNeg (σ.1 g 15 0)) p1) g 18 (Int32.toNatClampNeg (σ.1 g 15 0)) (-9)).1 g 15 0) + 1))))) : zR)) (zev d) :=
  (zev_m (T := zT_36) rfl rfl rfl).trans ((zrun_eq (zev d) zT_36 [] 31 _ _ _ _).trans (by rfl))

/-- X4_isThere (I)Z -/
theorem ez_37 (d : Nat) (g : Nat) (p0 : Int32) (σ : zM) : zev (d + 1) 37 [.inr (.inr (g, 15)), .inl p0] σ = (fun C : zC => (if p0 < 0 then (zgd (zret 3 0) (some (0, 0, σ))) else (if p0 < (σ.1 g 15 0) then (zgd (zret 3 1) (some (1, 0, σ))) else (zgd (zret 3 0) (some (0, 0, σ)))) : zR)) (zev d) :=
  (zev_m (T := zT_37) rfl rfl rfl).trans ((zrun_eq (zev d) zT_37 [] 15 _ _ _ _).trans (by rfl))

/-- X4_seatedWeight (I)I -/
theorem ez_38 (d : Nat) (g : Nat) (p0 : Int32) (σ : zM) : zev (d + 1) 38 [.inr (.inr (g, 15)), .inl p0] σ = (fun C : zC => (zrun C zT_38 4 [some (.inr (.inr (g, 15))), some (.inl p0), some (.inl 0), some (.inl 0)] [] σ : zR)) (zev d) :=
  (zev_m (T := zT_38) rfl rfl rfl).trans ((zrun_eq (zev d) zT_38 [4] 36 _ _ _ _).trans (by rfl))
theorem ez_38_4 (C : zC) (g : Nat) (a1 : Int32) (a2 : Int32) (a3 : Int32) (σ : zM) : zrun C zT_38 4 [some (.inr (.inr (g, 15))), some (.inl a1), some (.inl a2), some (.inl a3)] [] σ = if a3 < (σ.1 g 15 0) then (zgd (zin a3 8) (if (σ.1 g 17 (Int32.toNatClampNeg a3)) = a1 then (zgd (zin a3 8) (if (σ.1 g 18 (Int32.toNatClampNeg a3)) = (-9) then (zrun C zT_38 4 [some (.inr (.inr (g, 15))), some (.inl a1), some (.inl a2), some (.inl (a3 + 1))] [] σ) else (zgd (zin a3 8) (zrun C zT_38 4 [some (.inr (.inr (g, 15))), some (.inl a1), some (.inl (a2 + (σ.1 g 16 (Int32.toNatClampNeg a3)))), some (.inl (a3 + 1))] [] σ)))) else (zrun C zT_38 4 [some (.inr (.inr (g, 15))), some (.inl a1), some (.inl a2), some (.inl (a3 + 1))] [] σ))) else (some (a2, 0, σ)) :=
  (zrun_eq C zT_38 [4] 36 _ _ _ _).trans (by rfl)

/-- X4_firstUnseated (I)I -/
theorem ez_39 (d : Nat) (g : Nat) (p0 : Int32) (σ : zM) : zev (d + 1) 39 [.inr (.inr (g, 15)), .inl p0] σ = (fun C : zC => (zrun C zT_39 2 [some (.inr (.inr (g, 15))), some (.inl p0), some (.inl 0)] [] σ : zR)) (zev d) :=
  (zev_m (T := zT_39) rfl rfl rfl).trans ((zrun_eq (zev d) zT_39 [2] 29 _ _ _ _).trans (by rfl))
theorem ez_39_2 (C : zC) (g : Nat) (a1 : Int32) (a2 : Int32) (σ : zM) : zrun C zT_39 2 [some (.inr (.inr (g, 15))), some (.inl a1), some (.inl a2)] [] σ = if a2 < (σ.1 g 15 0) then (zgd (zin a2 8) (if (σ.1 g 17 (Int32.toNatClampNeg a2)) = a1 then (zgd (zin a2 8) (if (σ.1 g 18 (Int32.toNatClampNeg a2)) = (-9) then (some (a2, 0, σ)) else (zrun C zT_39 2 [some (.inr (.inr (g, 15))), some (.inl a1), some (.inl (a2 + 1))] [] σ))) else (zrun C zT_39 2 [some (.inr (.inr (g, 15))), some (.inl a1), some (.inl (a2 + 1))] [] σ))) else (some ((-9), 0, σ)) :=
  (zrun_eq C zT_39 [2] 29 _ _ _ _).trans (by rfl)

/-- X5_copyFrom (LOakCourt$Reports;)V -/
theorem ez_40 (d : Nat) (g : Nat) (h0 : Nat) (σ : zM) : zev (d + 1) 40 [.inr (.inr (g, 19)), .inr (.inr (h0, 19))] σ = (fun C : zC => ((C 148 [.inr (.inr (h0, 20)), .inr (.inr (g, 20))] (zwI σ g 19 0 (σ.1 h0 19 0))).bind fun x0 => (C 148 [.inr (.inr (h0, 21)), .inr (.inr (g, 21))] x0.2.2).bind fun x1 => some (0, 0, x1.2.2) : zR)) (zev d) :=
  (zev_m (T := zT_40) rfl rfl rfl).trans ((zrun_eq (zev d) zT_40 [] 20 _ _ _ _).trans (by rfl))

/-- X5_note (II)I -/
theorem ez_41 (d : Nat) (g : Nat) (p0 : Int32) (p1 : Int32) (σ : zM) : zev (d + 1) 41 [.inr (.inr (g, 19)), .inl p0, .inl p1] σ = (fun C : zC => (zgd (zin (σ.1 g 19 0) 6) (zgd (zin (σ.1 g 19 0) 6) (some ((σ.1 g 19 0), 0, zwI (zwI (zwI σ g 20 (Int32.toNatClampNeg (σ.1 g 19 0)) p0) g 21 (Int32.toNatClampNeg (σ.1 g 19 0)) p1) g 19 0 (((zwI (zwI σ g 20 (Int32.toNatClampNeg (σ.1 g 19 0)) p0) g 21 (Int32.toNatClampNeg (σ.1 g 19 0)) p1).1 g 19 0) + 1)))) : zR)) (zev d) :=
  (zev_m (T := zT_41) rfl rfl rfl).trans ((zrun_eq (zev d) zT_41 [] 26 _ _ _ _).trans (by rfl))

/-- X5_fit (LOakCourt$Oak;I)V -/
theorem ez_42 (d : Nat) (g : Nat) (h0 : Nat) (p1 : Int32) (σ : zM) : zev (d + 1) 42 [.inr (.inr (g, 19)), .inr (.inr (h0, 0)), .inl p1] σ = (fun C : zC => (zrun C zT_42 14 [some (.inr (.inr (g, 19))), some (.inr (.inr (h0, 0))), some (.inl p1), some (.inl 0)] [] (zwI (zwI σ g 19 3 1) g 19 4 200) : zR)) (zev d) :=
  (zev_m (T := zT_42) rfl rfl rfl).trans ((zrun_eq (zev d) zT_42 [14] 27 _ _ _ _).trans (by rfl))
theorem ez_42_14 (C : zC) (g : Nat) (h0 : Nat) (a2 : Int32) (a3 : Int32) (σ : zM) : zrun C zT_42 14 [some (.inr (.inr (g, 19))), some (.inr (.inr (h0, 0))), some (.inl a2), some (.inl a3)] [] σ = if a3 < (σ.1 g 19 0) then (if a3 = a2 then (zrun C zT_42 14 [some (.inr (.inr (g, 19))), some (.inr (.inr (h0, 0))), some (.inl a2), some (.inl (a3 + 1))] [] σ) else ((C 43 [.inr (.inr (g, 19)), .inr (.inr (h0, 0)), .inl a3] σ).bind fun x0 => zrun C zT_42 14 [some (.inr (.inr (g, 19))), some (.inr (.inr (h0, 0))), some (.inl a2), some (.inl (a3 + 1))] [] x0.2.2)) else (some (0, 0, σ)) :=
  (zrun_eq C zT_42 [14] 27 _ _ _ _).trans (by rfl)

/-- X5_narrow (LOakCourt$Oak;I)V -/
theorem ez_43 (d : Nat) (g : Nat) (h0 : Nat) (p1 : Int32) (σ : zM) : zev (d + 1) 43 [.inr (.inr (g, 19)), .inr (.inr (h0, 0)), .inl p1] σ = (fun C : zC => (zgd (zin p1 6) ((C 14 [.inr (.inr (h0, 1)), .inl (σ.1 g 20 (Int32.toNatClampNeg p1))] σ).bind fun x0 => if x0.1 = 0 then (some (0, 0, zwI x0.2.2 g 19 4 0)) else ((C 29 [.inr (.inr (h0, 0))] x0.2.2).bind fun x1 => if x1.1 = 0 then (zgd (zin p1 6) ((C 32 [.inr (.inr (h0, 0)), .inl (x1.2.2.1 g 20 (Int32.toNatClampNeg p1))] x1.2.2).bind fun x2 => zrun C zT_43 45 [some (.inr (.inr (g, 19))), some (.inr (.inr (h0, 0))), some (.inl p1), none] [.inl (x2.1 + 1)] x2.2.2)) else (zrun C zT_43 45 [some (.inr (.inr (g, 19))), some (.inr (.inr (h0, 0))), some (.inl p1), none] [.inl 1] x1.2.2))) : zR)) (zev d) :=
  (zev_m (T := zT_43) rfl rfl rfl).trans ((zrun_eq (zev d) zT_43 [45] 53 _ _ _ _).trans (by rfl))
theorem ez_43_45 (C : zC) (g : Nat) (d1 : Option zV) (a2 : Int32) (d3 : Option zV) (s0 : Int32) (σ : zM) : zrun C zT_43 45 [some (.inr (.inr (g, 19))), d1, some (.inl a2), d3] [.inl s0] σ = zgd (zin a2 6) (if (σ.1 g 21 (Int32.toNatClampNeg a2)) = 1 then ((C 272 [.inl (σ.1 g 19 3), .inl s0] σ).bind fun x0 => some (0, 0, zwI x0.2.2 g 19 3 x0.1)) else ((C 273 [.inl (σ.1 g 19 4), .inl (s0 - 1)] σ).bind fun x1 => some (0, 0, zwI x1.2.2 g 19 4 x1.1))) :=
  (zrun_eq C zT_43 [45] 53 _ _ _ _).trans (by rfl)

/-- X5_fitting ()I -/
theorem ez_44 (d : Nat) (g : Nat) (σ : zM) : zev (d + 1) 44 [.inr (.inr (g, 19))] σ = (fun C : zC => ((C 272 [.inl 0, .inl (((σ.1 g 19 4) - (σ.1 g 19 3)) + 1)] σ).bind fun x0 => some (x0.1, 0, x0.2.2) : zR)) (zev d) :=
  (zev_m (T := zT_44) rfl rfl rfl).trans ((zrun_eq (zev d) zT_44 [] 15 _ _ _ _).trans (by rfl))

/-- X6_has (II)Z -/
theorem ez_45 (d : Nat) (p0 : Int32) (p1 : Int32) (σ : zM) : zev (d + 1) 45 [.inr (.inr (0, 38)), .inl p0, .inl p1] σ = (fun C : zC => (if p0 < 0 then (zgd (zret 3 0) (some (0, 0, σ))) else (if p0 < (σ.1 0 38 0) then (if p1 < 0 then (zgd (zret 3 0) (some (0, 0, σ))) else (if p1 < 3 then (zgd (zret 3 1) (some (1, 0, σ))) else (zgd (zret 3 0) (some (0, 0, σ))))) else (zgd (zret 3 0) (some (0, 0, σ)))) : zR)) (zev d) :=
  (zev_m (T := zT_45) rfl rfl rfl).trans ((zrun_eq (zev d) zT_45 [] 20 _ _ _ _).trans (by rfl))

/-- X6_tell (LOakCourt$Oak;I)V -/
theorem ez_46 (d : Nat) (h0 : Nat) (p1 : Int32) (σ : zM) : zev (d + 1) 46 [.inr (.inr (0, 38)), .inr (.inr (h0, 0)), .inl p1] σ = (fun C : zC => (zrun C zT_46 10 [some (.inr (.inr (0, 38))), some (.inr (.inr (h0, 0))), some (.inl p1), some (.inl p1), some (.inl 0)] [] (zwI σ 0 38 0 0) : zR)) (zev d) :=
  (zev_m (T := zT_46) rfl rfl rfl).trans ((zrun_eq (zev d) zT_46 [10] 60 _ _ _ _).trans (by rfl))
theorem ez_46_10 (C : zC) (h0 : Nat) (d2 : Option zV) (a3 : Int32) (a4 : Int32) (σ : zM) : zrun C zT_46 10 [some (.inr (.inr (0, 38))), some (.inr (.inr (h0, 0))), d2, some (.inl a3), some (.inl a4)] [] σ = if a4 < 9 then ((C 13 [.inr (.inr (h0, 1)), .inl a3] σ).bind fun x0 => if x0.1 = 0 then (some (0, 0, x0.2.2)) else (zgd (zin a4 9) (zgd (zin a4 9) ((C 26 [.inr (.inr (h0, 0)), .inl a3] (zwI x0.2.2 (Int32.toNatClampNeg a4) 40 0 a3)).bind fun x1 => zgd (zin a4 9) ((C 16 [.inr (.inr (h0, 1)), .inl a3] (zwI x1.2.2 (Int32.toNatClampNeg a4) 40 1 x1.1)).bind fun x2 => zgd (zin a3 9) (zrun C zT_46 10 [some (.inr (.inr (0, 38))), some (.inr (.inr (h0, 0))), none, some (.inl ((zwI (zwI x2.2.2 (Int32.toNatClampNeg a4) 40 2 x2.1) 0 38 0 (a4 + 1)).1 h0 3 (Int32.toNatClampNeg a3))), some (.inl (a4 + 1))] [] (zwI (zwI x2.2.2 (Int32.toNatClampNeg a4) 40 2 x2.1) 0 38 0 (a4 + 1)))))))) else (some (0, 0, σ)) :=
  (zrun_eq C zT_46 [10] 60 _ _ _ _).trans (by rfl)

/-- X6_firstWrong (LOakCourt$Oak;)I -/
theorem ez_47 (d : Nat) (h0 : Nat) (σ : zM) : zev (d + 1) 47 [.inr (.inr (0, 38)), .inr (.inr (h0, 0))] σ = (fun C : zC => (zrun C zT_47 5 [some (.inr (.inr (0, 38))), some (.inr (.inr (h0, 0))), some (.inl (-9)), some (.inl 0), none] [] σ : zR)) (zev d) :=
  (zev_m (T := zT_47) rfl rfl rfl).trans ((zrun_eq (zev d) zT_47 [5, 49] 75 _ _ _ _).trans (by rfl))
theorem ez_47_5 (C : zC) (h0 : Nat) (a2 : Int32) (a3 : Int32) (d4 : Option zV) (σ : zM) : zrun C zT_47 5 [some (.inr (.inr (0, 38))), some (.inr (.inr (h0, 0))), some (.inl a2), some (.inl a3), d4] [] σ = if a3 < (σ.1 0 38 0) then (zgd (zin a3 9) ((C 13 [.inr (.inr (h0, 1)), .inl (σ.1 (Int32.toNatClampNeg a3) 40 0)] σ).bind fun x0 => if x0.1 = 0 then (some ((a3 + 1), 0, x0.2.2)) else (if 0 < a3 then (if (σ.1 (Int32.toNatClampNeg a3) 40 0) = a2 then (zrun C zT_47 49 [some (.inr (.inr (0, 38))), some (.inr (.inr (h0, 0))), some (.inl a2), some (.inl a3), some (.inl (σ.1 (Int32.toNatClampNeg a3) 40 0))] [] x0.2.2) else (some ((a3 + 1), 0, x0.2.2))) else (zrun C zT_47 49 [some (.inr (.inr (0, 38))), some (.inr (.inr (h0, 0))), some (.inl a2), some (.inl a3), some (.inl (σ.1 (Int32.toNatClampNeg a3) 40 0))] [] x0.2.2)))) else (if a2 = (-9) then (some (0, 0, σ)) else (some ((σ.1 0 38 0), 0, σ))) :=
  (zrun_eq C zT_47 [5, 49] 75 _ _ _ _).trans (by rfl)
theorem ez_47_49 (C : zC) (h0 : Nat) (d2 : Option zV) (a3 : Int32) (a4 : Int32) (σ : zM) : zrun C zT_47 49 [some (.inr (.inr (0, 38))), some (.inr (.inr (h0, 0))), d2, some (.inl a3), some (.inl a4)] [] σ = zgd (zin a3 9) ((C 26 [.inr (.inr (h0, 0)), .inl a4] σ).bind fun x0 => if (σ.1 (Int32.toNatClampNeg a3) 40 1) = x0.1 then (zgd (zin a3 9) ((C 16 [.inr (.inr (h0, 1)), .inl a4] x0.2.2).bind fun x1 => if (x0.2.2.1 (Int32.toNatClampNeg a3) 40 2) = x1.1 then (zgd (zin a4 9) (zrun C zT_47 5 [some (.inr (.inr (0, 38))), some (.inr (.inr (h0, 0))), some (.inl (x1.2.2.1 h0 3 (Int32.toNatClampNeg a4))), some (.inl (a3 + 1)), some (.inl a4)] [] x1.2.2)) else (some ((a3 + 1), 0, x1.2.2)))) else (some ((a3 + 1), 0, x0.2.2))) :=
  (zrun_eq C zT_47 [5, 49] 75 _ _ _ _).trans (by rfl)

/-- X8_copyFrom (LOakCourt$Rules;)V -/
theorem ez_63 (d : Nat) (g : Nat) (h0 : Nat) (σ : zM) : zev (d + 1) 63 [.inr (.inr (g, 7)), .inr (.inr (h0, 7))] σ = (fun C : zC => ((C 148 [.inr (.inr (h0, 8)), .inr (.inr (g, 8))] (zwI σ g 7 0 (σ.1 h0 7 0))).bind fun x0 => (C 148 [.inr (.inr (h0, 9)), .inr (.inr (g, 9))] x0.2.2).bind fun x1 => (C 148 [.inr (.inr (h0, 10)), .inr (.inr (g, 10))] x1.2.2).bind fun x2 => (C 148 [.inr (.inr (h0, 11)), .inr (.inr (g, 11))] x2.2.2).bind fun x3 => (C 148 [.inr (.inr (h0, 12)), .inr (.inr (g, 12))] x3.2.2).bind fun x4 => some (0, 0, x4.2.2) : zR)) (zev d) :=
  (zev_m (T := zT_63) rfl rfl rfl).trans ((zrun_eq (zev d) zT_63 [] 35 _ _ _ _).trans (by rfl))

/-- X8_setFacts (IIIII)V -/
theorem ez_64 (d : Nat) (g : Nat) (p0 : Int32) (p1 : Int32) (p2 : Int32) (p3 : Int32) (p4 : Int32) (σ : zM) : zev (d + 1) 64 [.inr (.inr (g, 7)), .inl p0, .inl p1, .inl p2, .inl p3, .inl p4] σ = (fun C : zC => (some (0, 0, zwI (zwI (zwI (zwI (zwI σ g 13 0 p0) g 13 1 p1) g 13 2 p2) g 13 3 p3) g 13 4 p4) : zR)) (zev d) :=
  (zev_m (T := zT_64) rfl rfl rfl).trans ((zrun_eq (zev d) zT_64 [] 31 _ _ _ _).trans (by rfl))

/-- X8_changed (I)I -/
theorem ez_65 (d : Nat) (g : Nat) (p0 : Int32) (σ : zM) : zev (d + 1) 65 [.inr (.inr (g, 7)), .inl p0] σ = (fun C : zC => (zrun C zT_65 12 [some (.inr (.inr (g, 7))), some (.inl p0), some (.inl (σ.1 g 13 3)), some (.inl 0), some (.inl 0)] [] σ : zR)) (zev d) :=
  (zev_m (T := zT_65) rfl rfl rfl).trans ((zrun_eq (zev d) zT_65 [12] 47 _ _ _ _).trans (by rfl))
theorem ez_65_12 (C : zC) (g : Nat) (a1 : Int32) (a2 : Int32) (a3 : Int32) (a4 : Int32) (σ : zM) : zrun C zT_65 12 [some (.inr (.inr (g, 7))), some (.inl a1), some (.inl a2), some (.inl a3), some (.inl a4)] [] σ = if a4 < (σ.1 g 7 0) then (zgd (zin a4 8) ((C 146 [.inl a1, .inl (σ.1 g 8 (Int32.toNatClampNeg a4))] σ).bind fun x0 => if x0.1 = 0 then (zgd (zin a4 8) (zrun C zT_65 12 [some (.inr (.inr (g, 7))), some (.inl a1), some (.inl a2), some (.inl (x0.2.2.1 g 11 (Int32.toNatClampNeg a4))), some (.inl (a4 + 1))] [] x0.2.2)) else (zgd (zin a4 8) ((C 67 [.inr (.inr (g, 7)), .inl a3, .inl (x0.2.2.1 g 11 (Int32.toNatClampNeg a4))] x0.2.2).bind fun x1 => if x1.1 = 0 then (zgd (zin a4 8) (zrun C zT_65 12 [some (.inr (.inr (g, 7))), some (.inl a1), some (.inl a2), some (.inl (x1.2.2.1 g 11 (Int32.toNatClampNeg a4))), some (.inl (a4 + 1))] [] x1.2.2)) else ((C 66 [.inr (.inr (g, 7)), .inl a4, .inl a2] x1.2.2).bind fun x2 => some (x2.1, 0, x2.2.2)))))) else (some (a2, 0, σ)) :=
  (zrun_eq C zT_65 [12] 47 _ _ _ _).trans (by rfl)

/-- X8_changedBy (II)I -/
theorem ez_66 (d : Nat) (g : Nat) (p0 : Int32) (p1 : Int32) (σ : zM) : zev (d + 1) 66 [.inr (.inr (g, 7)), .inl p0, .inl p1] σ = (fun C : zC => (zgd (zin p0 8) (if (σ.1 g 9 (Int32.toNatClampNeg p0)) = (-16) then (zgd (zin p0 8) (some ((p1 + (σ.1 g 10 (Int32.toNatClampNeg p0))), 0, σ))) else (zgd (zin p0 8) (if (σ.1 g 9 (Int32.toNatClampNeg p0)) = (-17) then (zgd (zin p0 8) ((C 272 [.inl 0, .inl (p1 - (σ.1 g 10 (Int32.toNatClampNeg p0)))] σ).bind fun x0 => some (x0.1, 0, x0.2.2))) else (some (0, 0, σ))))) : zR)) (zev d) :=
  (zev_m (T := zT_66) rfl rfl rfl).trans ((zrun_eq (zev d) zT_66 [] 35 _ _ _ _).trans (by rfl))

/-- X8_isSo (II)Z -/
theorem ez_67 (d : Nat) (g : Nat) (p0 : Int32) (p1 : Int32) (σ : zM) : zev (d + 1) 67 [.inr (.inr (g, 7)), .inl p0, .inl p1] σ = (fun C : zC => (zrun C zT_67 5 [some (.inr (.inr (g, 7))), some (.inl p0), some (.inl p1), some (.inl 0), some (.inl p0), none] [] σ : zR)) (zev d) :=
  (zev_m (T := zT_67) rfl rfl rfl).trans ((zrun_eq (zev d) zT_67 [5] 100 _ _ _ _).trans (by rfl))
theorem ez_67_5 (C : zC) (g : Nat) (d1 : Option zV) (a2 : Int32) (a3 : Int32) (a4 : Int32) (d5 : Option zV) (σ : zM) : zrun C zT_67 5 [some (.inr (.inr (g, 7))), d1, some (.inl a2), some (.inl a3), some (.inl a4), d5] [] σ = if a4 < a2 then (zgd (zin a4 200) (if (σ.1 g 12 (Int32.toNatClampNeg a4)) < (-5) then (if (σ.1 g 12 (Int32.toNatClampNeg a4)) = (-9) then (if 0 < a3 then (zgd (zin (a3 - 1) 16) (zgd (zin (a3 - 1) 16) (zrun C zT_67 5 [some (.inr (.inr (g, 7))), none, some (.inl a2), some (.inl a3), some (.inl (a4 + 1)), some (.inl (σ.1 g 12 (Int32.toNatClampNeg a4)))] [] (zwI σ g 14 (Int32.toNatClampNeg (a3 - 1)) (1 - (σ.1 g 14 (Int32.toNatClampNeg (a3 - 1)))))))) else (zrun C zT_67 5 [some (.inr (.inr (g, 7))), none, some (.inl a2), some (.inl a3), some (.inl (a4 + 1)), some (.inl (σ.1 g 12 (Int32.toNatClampNeg a4)))] [] σ)) else (if 1 < a3 then (zgd (zin ((a3 + (-1)) - 1) 16) (zgd (zin (a3 + (-1)) 16) ((C 68 [.inl (σ.1 g 12 (Int32.toNatClampNeg a4)), .inl (σ.1 g 14 (Int32.toNatClampNeg ((a3 + (-1)) - 1))), .inl (σ.1 g 14 (Int32.toNatClampNeg (a3 + (-1))))] σ).bind fun x0 => if x0.1 = 0 then (zgd (zin ((a3 + (-1)) - 1) 16) (zrun C zT_67 5 [some (.inr (.inr (g, 7))), none, some (.inl a2), some (.inl (a3 + (-1))), some (.inl (a4 + 1)), some (.inl (σ.1 g 12 (Int32.toNatClampNeg a4)))] [] (zwI x0.2.2 g 14 (Int32.toNatClampNeg ((a3 + (-1)) - 1)) 0))) else (zgd (zin ((a3 + (-1)) - 1) 16) (zrun C zT_67 5 [some (.inr (.inr (g, 7))), none, some (.inl a2), some (.inl (a3 + (-1))), some (.inl (a4 + 1)), some (.inl (σ.1 g 12 (Int32.toNatClampNeg a4)))] [] (zwI x0.2.2 g 14 (Int32.toNatClampNeg ((a3 + (-1)) - 1)) 1)))))) else (zrun C zT_67 5 [some (.inr (.inr (g, 7))), none, some (.inl a2), some (.inl a3), some (.inl (a4 + 1)), some (.inl (σ.1 g 12 (Int32.toNatClampNeg a4)))] [] σ))) else (if a3 < 16 then (if (σ.1 g 12 (Int32.toNatClampNeg a4)) < 0 then (zgd (zin ((-1) - (σ.1 g 12 (Int32.toNatClampNeg a4))) 5) (zgd (zin a3 16) (zrun C zT_67 5 [some (.inr (.inr (g, 7))), none, some (.inl a2), some (.inl (a3 + 1)), some (.inl (a4 + 1)), some (.inl (σ.1 g 12 (Int32.toNatClampNeg a4)))] [] (zwI σ g 14 (Int32.toNatClampNeg a3) (σ.1 g 13 (Int32.toNatClampNeg ((-1) - (σ.1 g 12 (Int32.toNatClampNeg a4))))))))) else (zgd (zin a3 16) (zrun C zT_67 5 [some (.inr (.inr (g, 7))), none, some (.inl a2), some (.inl (a3 + 1)), some (.inl (a4 + 1)), some (.inl (σ.1 g 12 (Int32.toNatClampNeg a4)))] [] (zwI σ g 14 (Int32.toNatClampNeg a3) (σ.1 g 12 (Int32.toNatClampNeg a4)))))) else (zrun C zT_67 5 [some (.inr (.inr (g, 7))), none, some (.inl a2), some (.inl a3), some (.inl (a4 + 1)), some (.inl (σ.1 g 12 (Int32.toNatClampNeg a4)))] [] σ)))) else (if a3 = 0 then (zgd (zret 3 1) (some (1, 0, σ))) else (zgd (zin (a3 - 1) 16) (if (σ.1 g 14 (Int32.toNatClampNeg (a3 - 1))) = 0 then (zgd (zret 3 0) (some (0, 0, σ))) else (zgd (zret 3 1) (some (1, 0, σ)))))) :=
  (zrun_eq C zT_67 [5] 100 _ _ _ _).trans (by rfl)

/-- X8_joined (III)Z -/
theorem ez_68 (d : Nat) (p0 : Int32) (p1 : Int32) (p2 : Int32) (σ : zM) : zev (d + 1) 68 [.inl p0, .inl p1, .inl p2] σ = (fun C : zC => (if p0 = (-10) then (if p1 = 0 then (zgd (zret 3 0) (some (0, 0, σ))) else (if p2 = 0 then (zgd (zret 3 0) (some (0, 0, σ))) else (zgd (zret 3 1) (some (1, 0, σ))))) else if p0 = (-9) then (if p1 = 0 then (if p2 = 0 then (zgd (zret 3 0) (some (0, 0, σ))) else (zgd (zret 3 1) (some (1, 0, σ)))) else (zgd (zret 3 1) (some (1, 0, σ)))) else if p0 = (-8) then (if p2 < p1 then (zgd (zret 3 1) (some (1, 0, σ))) else (zgd (zret 3 0) (some (0, 0, σ)))) else if p0 = (-7) then (if p1 = p2 then (zgd (zret 3 1) (some (1, 0, σ))) else (zgd (zret 3 0) (some (0, 0, σ)))) else if p0 = (-6) then (if p1 < p2 then (zgd (zret 3 1) (some (1, 0, σ))) else (zgd (zret 3 0) (some (0, 0, σ)))) else (if p1 = 0 then (if p2 = 0 then (zgd (zret 3 0) (some (0, 0, σ))) else (zgd (zret 3 1) (some (1, 0, σ)))) else (zgd (zret 3 1) (some (1, 0, σ)))) : zR)) (zev d) :=
  (zev_m (T := zT_68) rfl rfl rfl).trans ((zrun_eq (zev d) zT_68 [] 44 _ _ _ _).trans (by rfl))
