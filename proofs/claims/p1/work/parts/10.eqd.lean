set_option maxRecDepth 20000
set_option linter.unusedVariables false
/-- X12_in (JJJ)Z -/
theorem ez_149 (d : Nat) (p0 : Int64) (p1 : Int64) (p2 : Int64) (σ : zM) : zev (d + 1) 149 [.inr (.inl p0), .inr (.inl p1), .inr (.inl p2)] σ = (fun C : zC => (if (lg_cmp p0 p1) < 0 then (zgd (zret 3 0) (some (0, 0, σ))) else (if 0 < (lg_cmp p0 p2) then (zgd (zret 3 0) (some (0, 0, σ))) else (zgd (zret 3 1) (some (1, 0, σ)))) : zR)) (zev d) :=
  (zev_m (T := zT_149) rfl rfl rfl).trans ((zrun_eq (zev d) zT_149 [] 17 _ _ _ _).trans (by rfl))

/-- X12_isBough (I)Z -/
theorem ez_150 (d : Nat) (p0 : Int32) (σ : zM) : zev (d + 1) 150 [.inr (.inr (0, 60)), .inl p0] σ = (fun C : zC => ((C 149 [.inr (.inl (Int32.toInt64 p0)), .inr (.inl 0), .inr (.inl (Int32.toInt64 ((σ.1 0 61 0) - 1)))] σ).bind fun x0 => zgd (zret 3 x0.1) (some (x0.1, 0, x0.2.2)) : zR)) (zev d) :=
  (zev_m (T := zT_150) rfl rfl rfl).trans ((zrun_eq (zev d) zT_150 [] 17 _ _ _ _).trans (by rfl))

/-- X12_isPerson (I)Z -/
theorem ez_151 (d : Nat) (p0 : Int32) (σ : zM) : zev (d + 1) 151 [.inr (.inr (0, 60)), .inl p0] σ = (fun C : zC => ((C 149 [.inr (.inl (Int32.toInt64 p0)), .inr (.inl 0), .inr (.inl (Int32.toInt64 ((σ.1 0 61 2) - 1)))] σ).bind fun x0 => zgd (zret 3 x0.1) (some (x0.1, 0, x0.2.2)) : zR)) (zev d) :=
  (zev_m (T := zT_151) rfl rfl rfl).trans ((zrun_eq (zev d) zT_151 [] 17 _ _ _ _).trans (by rfl))

/-- X12_has (II)Z -/
theorem ez_152 (d : Nat) (p0 : Int32) (p1 : Int32) (σ : zM) : zev (d + 1) 152 [.inl p0, .inl p1] σ = (fun C : zC => (if ((p0 >>> (p1 &&& 31)) &&& 1) = 1 then (zgd (zret 3 1) (some (1, 0, σ))) else (zgd (zret 3 0) (some (0, 0, σ))) : zR)) (zev d) :=
  (zev_m (T := zT_152) rfl rfl rfl).trans ((zrun_eq (zev d) zT_152 [] 16 _ _ _ _).trans (by rfl))

/-- X12_puts ()V -/
theorem ez_153 (d : Nat)  (σ : zM) : zev (d + 1) 153 [.inr (.inr (0, 60))] σ = (fun C : zC => (zrun C zT_153 2 [some (.inr (.inr (0, 60))), some (.inl 0)] [] σ : zR)) (zev d) :=
  (zev_m (T := zT_153) rfl rfl rfl).trans ((zrun_eq (zev d) zT_153 [2] 21 _ _ _ _).trans (by rfl))
theorem ez_153_2 (C : zC) (a1 : Int32) (σ : zM) : zrun C zT_153 2 [some (.inr (.inr (0, 60))), some (.inl a1)] [] σ = if a1 < 320 then (zgd (zin a1 320) (zgd (zin a1 320) (zrun C zT_153 2 [some (.inr (.inr (0, 60))), some (.inl (a1 + 1))] [] (zwI σ 0 63 (Int32.toNatClampNeg a1) (σ.1 0 61 (Int32.toNatClampNeg a1)))))) else (some (0, 0, σ)) :=
  (zrun_eq C zT_153 [2] 21 _ _ _ _).trans (by rfl)

/-- X12_putsBack ()V -/
theorem ez_154 (d : Nat)  (σ : zM) : zev (d + 1) 154 [.inr (.inr (0, 60))] σ = (fun C : zC => (zrun C zT_154 2 [some (.inr (.inr (0, 60))), some (.inl 0)] [] σ : zR)) (zev d) :=
  (zev_m (T := zT_154) rfl rfl rfl).trans ((zrun_eq (zev d) zT_154 [2] 21 _ _ _ _).trans (by rfl))
theorem ez_154_2 (C : zC) (a1 : Int32) (σ : zM) : zrun C zT_154 2 [some (.inr (.inr (0, 60))), some (.inl a1)] [] σ = if a1 < 320 then (zgd (zin a1 320) (zgd (zin a1 320) (zrun C zT_154 2 [some (.inr (.inr (0, 60))), some (.inl (a1 + 1))] [] (zwI σ 0 61 (Int32.toNatClampNeg a1) (σ.1 0 63 (Int32.toNatClampNeg a1)))))) else (some (0, 0, σ)) :=
  (zrun_eq C zT_154 [2] 21 _ _ _ _).trans (by rfl)

/-- X12_at (II)I -/
theorem ez_155 (d : Nat) (p0 : Int32) (p1 : Int32) (σ : zM) : zev (d + 1) 155 [.inl p0, .inl p1] σ = (fun C : zC => (some (((7 + (5 * p0)) + p1), 0, σ) : zR)) (zev d) :=
  (zev_m (T := zT_155) rfl rfl rfl).trans ((zrun_eq (zev d) zT_155 [] 13 _ _ _ _).trans (by rfl))

/-- X12_its (II)I -/
theorem ez_156 (d : Nat) (p0 : Int32) (p1 : Int32) (σ : zM) : zev (d + 1) 156 [.inr (.inr (0, 60)), .inl p0, .inl p1] σ = (fun C : zC => ((C 155 [.inl p0, .inl p1] σ).bind fun x0 => zgd (zin x0.1 320) (some ((x0.2.2.1 0 61 (Int32.toNatClampNeg x0.1)), 0, x0.2.2)) : zR)) (zev d) :=
  (zev_m (T := zT_156) rfl rfl rfl).trans ((zrun_eq (zev d) zT_156 [] 12 _ _ _ _).trans (by rfl))

/-- X12_isBroken (I)Z -/
theorem ez_157 (d : Nat) (p0 : Int32) (σ : zM) : zev (d + 1) 157 [.inr (.inr (0, 60)), .inl p0] σ = (fun C : zC => ((C 156 [.inr (.inr (0, 60)), .inl p0, .inl 4] σ).bind fun x0 => if x0.1 = 1 then (zgd (zret 3 1) (some (1, 0, x0.2.2))) else (zgd (zret 3 0) (some (0, 0, x0.2.2))) : zR)) (zev d) :=
  (zev_m (T := zT_157) rfl rfl rfl).trans ((zrun_eq (zev d) zT_157 [] 15 _ _ _ _).trans (by rfl))

/-- X12_below (I)I -/
theorem ez_158 (d : Nat) (p0 : Int32) (σ : zM) : zev (d + 1) 158 [.inr (.inr (0, 60)), .inl p0] σ = (fun C : zC => ((C 156 [.inr (.inr (0, 60)), .inl p0, .inl 1] σ).bind fun x0 => some ((x0.1 - 1), 0, x0.2.2) : zR)) (zev d) :=
  (zev_m (T := zT_158) rfl rfl rfl).trans ((zrun_eq (zev d) zT_158 [] 12 _ _ _ _).trans (by rfl))

/-- X12_isPart (II)Z -/
theorem ez_159 (d : Nat) (p0 : Int32) (p1 : Int32) (σ : zM) : zev (d + 1) 159 [.inl p0, .inl p1] σ = (fun C : zC => (if p0 = 2 then ((C 149 [.inr (.inl (Int32.toInt64 p1)), .inr (.inl 1), .inr (.inl 9)] σ).bind fun x0 => if x0.1 = 0 then (if p0 = 3 then ((C 149 [.inr (.inl (Int32.toInt64 p1)), .inr (.inl 1), .inr (.inl 999)] x0.2.2).bind fun x1 => if x1.1 = 0 then (zgd (zret 3 0) (some (0, 0, x1.2.2))) else (zgd (zret 3 1) (some (1, 0, x1.2.2)))) else (zgd (zret 3 0) (some (0, 0, x0.2.2)))) else (zgd (zret 3 1) (some (1, 0, x0.2.2)))) else (if p0 = 3 then ((C 149 [.inr (.inl (Int32.toInt64 p1)), .inr (.inl 1), .inr (.inl 999)] σ).bind fun x2 => if x2.1 = 0 then (zgd (zret 3 0) (some (0, 0, x2.2.2))) else (zgd (zret 3 1) (some (1, 0, x2.2.2)))) else (zgd (zret 3 0) (some (0, 0, σ)))) : zR)) (zev d) :=
  (zev_m (T := zT_159) rfl rfl rfl).trans ((zrun_eq (zev d) zT_159 [] 27 _ _ _ _).trans (by rfl))

/-- X12_bough (IIII)I -/
theorem ez_160 (d : Nat) (p0 : Int32) (p1 : Int32) (p2 : Int32) (p3 : Int32) (σ : zM) : zev (d + 1) 160 [.inr (.inr (0, 60)), .inl p0, .inl p1, .inl p2, .inl p3] σ = (fun C : zC => ((C 149 [.inr (.inl (Int32.toInt64 p0)), .inr (.inl 1), .inr (.inl 5)] σ).bind fun x0 => if x0.1 = 0 then (some ((-1), 0, x0.2.2)) else (if p1 = (-1) then (zrun C zT_160 25 [some (.inr (.inr (0, 60))), some (.inl p0), some (.inl p1), some (.inl p2), some (.inl p3), none] [] x0.2.2) else ((C 150 [.inr (.inr (0, 60)), .inl p1] x0.2.2).bind fun x1 => if x1.1 = 0 then (some ((-1), 0, x1.2.2)) else (zrun C zT_160 25 [some (.inr (.inr (0, 60))), some (.inl p0), some (.inl p1), some (.inl p2), some (.inl p3), none] [] x1.2.2))) : zR)) (zev d) :=
  (zev_m (T := zT_160) rfl rfl rfl).trans ((zrun_eq (zev d) zT_160 [25, 73] 96 _ _ _ _).trans (by rfl))
theorem ez_160_25 (C : zC) (a1 : Int32) (a2 : Int32) (a3 : Int32) (a4 : Int32) (d5 : Option zV) (σ : zM) : zrun C zT_160 25 [some (.inr (.inr (0, 60))), some (.inl a1), some (.inl a2), some (.inl a3), some (.inl a4), d5] [] σ = (C 159 [.inl 2, .inl a3] σ).bind fun x0 => if x0.1 = 0 then (some ((-1), 0, x0.2.2)) else ((C 159 [.inl 3, .inl a4] x0.2.2).bind fun x1 => if x1.1 = 0 then (some ((-1), 0, x1.2.2)) else (if (x1.2.2.1 0 61 0) = 9 then (some ((-2), 0, x1.2.2)) else (if a2 < 0 then (zrun C zT_160 73 [some (.inr (.inr (0, 60))), some (.inl a1), some (.inl a2), some (.inl a3), some (.inl a4), none] [] x1.2.2) else ((C 157 [.inr (.inr (0, 60)), .inl a2] x1.2.2).bind fun x2 => if x2.1 = 0 then (zrun C zT_160 73 [some (.inr (.inr (0, 60))), some (.inl a1), some (.inl a2), some (.inl a3), some (.inl a4), none] [] x2.2.2) else (some ((-4), 0, x2.2.2)))))) :=
  (zrun_eq C zT_160 [25, 73] 96 _ _ _ _).trans (by rfl)
theorem ez_160_73 (C : zC) (a1 : Int32) (a2 : Int32) (a3 : Int32) (a4 : Int32) (d5 : Option zV) (σ : zM) : zrun C zT_160 73 [some (.inr (.inr (0, 60))), some (.inl a1), some (.inl a2), some (.inl a3), some (.inl a4), d5] [] σ = (C 155 [.inl (σ.1 0 61 0), .inl 0] σ).bind fun x0 => zgd (zin x0.1 320) ((C 155 [.inl (σ.1 0 61 0), .inl 1] (zwI x0.2.2 0 61 (Int32.toNatClampNeg x0.1) a1)).bind fun x1 => zgd (zin x1.1 320) ((C 155 [.inl (σ.1 0 61 0), .inl 2] (zwI x1.2.2 0 61 (Int32.toNatClampNeg x1.1) (a2 + 1))).bind fun x2 => zgd (zin x2.1 320) ((C 155 [.inl (σ.1 0 61 0), .inl 3] (zwI x2.2.2 0 61 (Int32.toNatClampNeg x2.1) a3)).bind fun x3 => zgd (zin x3.1 320) ((C 155 [.inl (σ.1 0 61 0), .inl 4] (zwI x3.2.2 0 61 (Int32.toNatClampNeg x3.1) a4)).bind fun x4 => zgd (zin x4.1 320) (some ((σ.1 0 61 0), 0, zwI (zwI x4.2.2 0 61 (Int32.toNatClampNeg x4.1) 0) 0 61 0 (((zwI x4.2.2 0 61 (Int32.toNatClampNeg x4.1) 0).1 0 61 0) + 1))))))) :=
  (zrun_eq C zT_160 [25, 73] 96 _ _ _ _).trans (by rfl)

/-- X12_isUnder (II)Z -/
theorem ez_161 (d : Nat) (p0 : Int32) (p1 : Int32) (σ : zM) : zev (d + 1) 161 [.inl p0, .inl p1] σ = (fun C : zC => (if p1 = 0 then (zgd (zret 3 1) (some (1, 0, σ))) else (if p0 = p1 then (zgd (zret 3 1) (some (1, 0, σ))) else (if p1 = 2 then (if p0 = 3 then (zgd (zret 3 1) (some (1, 0, σ))) else (if p1 = 4 then (if p0 = 5 then (zgd (zret 3 1) (some (1, 0, σ))) else (zgd (zret 3 0) (some (0, 0, σ)))) else (zgd (zret 3 0) (some (0, 0, σ))))) else (if p1 = 4 then (if p0 = 5 then (zgd (zret 3 1) (some (1, 0, σ))) else (zgd (zret 3 0) (some (0, 0, σ)))) else (zgd (zret 3 0) (some (0, 0, σ)))))) : zR)) (zev d) :=
  (zev_m (T := zT_161) rfl rfl rfl).trans ((zrun_eq (zev d) zT_161 [] 26 _ _ _ _).trans (by rfl))

/-- X12_fact (II)I -/
theorem ez_162 (d : Nat) (p0 : Int32) (p1 : Int32) (σ : zM) : zev (d + 1) 162 [.inr (.inr (0, 60)), .inl p0, .inl p1] σ = (fun C : zC => (if p0 = (-5) then (some (p1, 0, σ)) else if p0 = (-4) then ((C 156 [.inr (.inr (0, 60)), .inl p1, .inl 3] σ).bind fun x0 => some (x0.1, 0, x0.2.2)) else if p0 = (-3) then ((C 156 [.inr (.inr (0, 60)), .inl p1, .inl 2] σ).bind fun x1 => some (x1.1, 0, x1.2.2)) else if p0 = (-2) then (some ((σ.1 0 61 5), 0, σ)) else if p0 = (-1) then (some ((σ.1 0 61 4), 0, σ)) else (some (p0, 0, σ)) : zR)) (zev d) :=
  (zev_m (T := zT_162) rfl rfl rfl).trans ((zrun_eq (zev d) zT_162 [] 31 _ _ _ _).trans (by rfl))

/-- X12_isHolding (III)Z -/
theorem ez_163 (d : Nat) (p0 : Int32) (p1 : Int32) (p2 : Int32) (σ : zM) : zev (d + 1) 163 [.inl p0, .inl p1, .inl p2] σ = (fun C : zC => (if p0 = (-21) then (if p1 = 1 then (if p2 = 1 then (zgd (zret 3 1) (some (1, 0, σ))) else (zgd (zret 3 0) (some (0, 0, σ)))) else (zgd (zret 3 0) (some (0, 0, σ)))) else if p0 = (-13) then (if p2 < p1 then (zgd (zret 3 1) (some (1, 0, σ))) else (zgd (zret 3 0) (some (0, 0, σ)))) else if p0 = (-12) then (if p1 = p2 then (zgd (zret 3 1) (some (1, 0, σ))) else (zgd (zret 3 0) (some (0, 0, σ)))) else if p0 = (-11) then (if p1 < p2 then (zgd (zret 3 1) (some (1, 0, σ))) else (zgd (zret 3 0) (some (0, 0, σ)))) else (if p1 = 1 then (zgd (zret 3 1) (some (1, 0, σ))) else (if p2 = 1 then (zgd (zret 3 1) (some (1, 0, σ))) else (zgd (zret 3 0) (some (0, 0, σ))))) : zR)) (zev d) :=
  (zev_m (T := zT_163) rfl rfl rfl).trans ((zrun_eq (zev d) zT_163 [] 48 _ _ _ _).trans (by rfl))

/-- X12_isSo (III)Z -/
theorem ez_164 (d : Nat) (p0 : Int32) (p1 : Int32) (p2 : Int32) (σ : zM) : zev (d + 1) 164 [.inr (.inr (0, 60)), .inl p0, .inl p1, .inl p2] σ = (fun C : zC => (zrun C zT_164 6 [some (.inr (.inr (0, 60))), some (.inl p0), some (.inl p1), some (.inl p2), some (.inl 0), some (.inl p0), none] [] σ : zR)) (zev d) :=
  (zev_m (T := zT_164) rfl rfl rfl).trans ((zrun_eq (zev d) zT_164 [6] 87 _ _ _ _).trans (by rfl))
theorem ez_164_6 (C : zC) (d1 : Option zV) (a2 : Int32) (a3 : Int32) (a4 : Int32) (a5 : Int32) (d6 : Option zV) (σ : zM) : zrun C zT_164 6 [some (.inr (.inr (0, 60))), d1, some (.inl a2), some (.inl a3), some (.inl a4), some (.inl a5), d6] [] σ = if a5 < a2 then (zgd (zin (120 + a5) 320) (if (-10) < (σ.1 0 61 (Int32.toNatClampNeg (120 + a5))) then ((C 162 [.inr (.inr (0, 60)), .inl (σ.1 0 61 (Int32.toNatClampNeg (120 + a5))), .inl a3] σ).bind fun x0 => zgd (zin a4 200) (zrun C zT_164 6 [some (.inr (.inr (0, 60))), none, some (.inl a2), some (.inl a3), some (.inl (a4 + 1)), some (.inl (a5 + 1)), some (.inl (σ.1 0 61 (Int32.toNatClampNeg (120 + a5))))] [] (zwI x0.2.2 0 64 (Int32.toNatClampNeg a4) x0.1))) else (if (σ.1 0 61 (Int32.toNatClampNeg (120 + a5))) = (-20) then (zgd (zin (a4 - 1) 200) (zgd (zin (a4 - 1) 200) (zrun C zT_164 6 [some (.inr (.inr (0, 60))), none, some (.inl a2), some (.inl a3), some (.inl a4), some (.inl (a5 + 1)), some (.inl (σ.1 0 61 (Int32.toNatClampNeg (120 + a5))))] [] (zwI σ 0 64 (Int32.toNatClampNeg (a4 - 1)) (1 - (σ.1 0 64 (Int32.toNatClampNeg (a4 - 1)))))))) else (zgd (zin ((a4 + (-1)) - 1) 200) (zgd (zin (a4 + (-1)) 200) ((C 163 [.inl (σ.1 0 61 (Int32.toNatClampNeg (120 + a5))), .inl (σ.1 0 64 (Int32.toNatClampNeg ((a4 + (-1)) - 1))), .inl (σ.1 0 64 (Int32.toNatClampNeg (a4 + (-1))))] σ).bind fun x1 => if x1.1 = 0 then (zgd (zin ((a4 + (-1)) - 1) 200) (zrun C zT_164 6 [some (.inr (.inr (0, 60))), none, some (.inl a2), some (.inl a3), some (.inl (a4 + (-1))), some (.inl (a5 + 1)), some (.inl (σ.1 0 61 (Int32.toNatClampNeg (120 + a5))))] [] (zwI x1.2.2 0 64 (Int32.toNatClampNeg ((a4 + (-1)) - 1)) 0))) else (zgd (zin ((a4 + (-1)) - 1) 200) (zrun C zT_164 6 [some (.inr (.inr (0, 60))), none, some (.inl a2), some (.inl a3), some (.inl (a4 + (-1))), some (.inl (a5 + 1)), some (.inl (σ.1 0 61 (Int32.toNatClampNeg (120 + a5))))] [] (zwI x1.2.2 0 64 (Int32.toNatClampNeg ((a4 + (-1)) - 1)) 1))))))))) else (if a4 = 0 then (zgd (zret 3 1) (some (1, 0, σ))) else (if (σ.1 0 64 0) = 1 then (zgd (zret 3 1) (some (1, 0, σ))) else (zgd (zret 3 0) (some (0, 0, σ))))) :=
  (zrun_eq C zT_164 [6] 87 _ _ _ _).trans (by rfl)

/-- X12_holdsNow (I)I -/
theorem ez_165 (d : Nat) (p0 : Int32) (σ : zM) : zev (d + 1) 165 [.inr (.inr (0, 60)), .inl p0] σ = (fun C : zC => ((C 156 [.inr (.inr (0, 60)), .inl p0, .inl 0] σ).bind fun x0 => zrun C zT_165 15 [some (.inr (.inr (0, 60))), some (.inl p0), some (.inl x0.1), some (.inl (-1)), some (.inl 0), some (.inl 0), none, none, none] [] x0.2.2 : zR)) (zev d) :=
  (zev_m (T := zT_165) rfl rfl rfl).trans ((zrun_eq (zev d) zT_165 [15, 98, 114, 132, 181, 194] 166 _ _ _ _).trans (by rfl))
theorem ez_165_15 (C : zC) (a1 : Int32) (a2 : Int32) (a3 : Int32) (a4 : Int32) (a5 : Int32) (d6 : Option zV) (d7 : Option zV) (d8 : Option zV) (σ : zM) : zrun C zT_165 15 [some (.inr (.inr (0, 60))), some (.inl a1), some (.inl a2), some (.inl a3), some (.inl a4), some (.inl a5), d6, d7, d8] [] σ = if a5 < (σ.1 0 61 1) then (if a3 < 0 then (zgd (zin ((88 + (4 * a5)) + 0) 320) ((C 161 [.inl a2, .inl (σ.1 0 61 (Int32.toNatClampNeg ((88 + (4 * a5)) + 0)))] σ).bind fun x0 => if x0.1 = 0 then (zgd (zin ((88 + (4 * a5)) + 3) 320) (zrun C zT_165 15 [some (.inr (.inr (0, 60))), some (.inl a1), some (.inl a2), some (.inl (-1)), some (.inl (x0.2.2.1 0 61 (Int32.toNatClampNeg ((88 + (4 * a5)) + 3)))), some (.inl (a5 + 1)), some (.inl (88 + (4 * a5))), none, none] [] x0.2.2)) else (zgd (zin ((88 + (4 * a5)) + 3) 320) ((C 164 [.inr (.inr (0, 60)), .inl a4, .inl (x0.2.2.1 0 61 (Int32.toNatClampNeg ((88 + (4 * a5)) + 3))), .inl a1] x0.2.2).bind fun x1 => if x1.1 = 0 then (zgd (zin ((88 + (4 * a5)) + 3) 320) (zrun C zT_165 15 [some (.inr (.inr (0, 60))), some (.inl a1), some (.inl a2), some (.inl (-1)), some (.inl (x1.2.2.1 0 61 (Int32.toNatClampNeg ((88 + (4 * a5)) + 3)))), some (.inl (a5 + 1)), some (.inl (88 + (4 * a5))), none, none] [] x1.2.2)) else (zgd (zin ((88 + (4 * a5)) + 3) 320) (zrun C zT_165 15 [some (.inr (.inr (0, 60))), some (.inl a1), some (.inl a2), some (.inl (88 + (4 * a5))), some (.inl (x1.2.2.1 0 61 (Int32.toNatClampNeg ((88 + (4 * a5)) + 3)))), some (.inl (a5 + 1)), some (.inl (88 + (4 * a5))), none, none] [] x1.2.2)))))) else (zrun C zT_165 98 [some (.inr (.inr (0, 60))), some (.inl a1), some (.inl a2), some (.inl a3), some (.inl a4), some (.inl a5), none, none, none] [] σ)) else (zrun C zT_165 98 [some (.inr (.inr (0, 60))), some (.inl a1), some (.inl a2), some (.inl a3), some (.inl a4), some (.inl a5), none, none, none] [] σ) :=
  (zrun_eq C zT_165 [15, 98, 114, 132, 181, 194] 166 _ _ _ _).trans (by rfl)
theorem ez_165_98 (C : zC) (a1 : Int32) (a2 : Int32) (a3 : Int32) (d4 : Option zV) (d5 : Option zV) (d6 : Option zV) (d7 : Option zV) (d8 : Option zV) (σ : zM) : zrun C zT_165 98 [some (.inr (.inr (0, 60))), some (.inl a1), some (.inl a2), some (.inl a3), d4, d5, d6, d7, d8] [] σ = if a3 < 0 then (zrun C zT_165 114 [some (.inr (.inr (0, 60))), some (.inl a1), some (.inl a2), some (.inl a3), none, none, none, none, none] [.inl (-1)] σ) else (zgd (zin (a3 + 1) 320) (zrun C zT_165 114 [some (.inr (.inr (0, 60))), some (.inl a1), some (.inl a2), some (.inl a3), none, none, none, none, none] [.inl (σ.1 0 61 (Int32.toNatClampNeg (a3 + 1)))] σ)) :=
  (zrun_eq C zT_165 [15, 98, 114, 132, 181, 194] 166 _ _ _ _).trans (by rfl)
theorem ez_165_114 (C : zC) (a1 : Int32) (a2 : Int32) (a3 : Int32) (d4 : Option zV) (d5 : Option zV) (d6 : Option zV) (d7 : Option zV) (d8 : Option zV) (s0 : Int32) (σ : zM) : zrun C zT_165 114 [some (.inr (.inr (0, 60))), some (.inl a1), some (.inl a2), some (.inl a3), d4, d5, d6, d7, d8] [.inl s0] σ = if a3 < 0 then (zrun C zT_165 132 [some (.inr (.inr (0, 60))), some (.inl a1), some (.inl a2), some (.inl a3), none, some (.inl s0), none, none, none] [.inl 0] σ) else (zgd (zin (a3 + 2) 320) (zrun C zT_165 132 [some (.inr (.inr (0, 60))), some (.inl a1), some (.inl a2), some (.inl a3), none, some (.inl s0), none, none, none] [.inl (σ.1 0 61 (Int32.toNatClampNeg (a3 + 2)))] σ)) :=
  (zrun_eq C zT_165 [15, 98, 114, 132, 181, 194] 166 _ _ _ _).trans (by rfl)
theorem ez_165_132 (C : zC) (a1 : Int32) (a2 : Int32) (d3 : Option zV) (d4 : Option zV) (a5 : Int32) (d6 : Option zV) (d7 : Option zV) (d8 : Option zV) (s0 : Int32) (σ : zM) : zrun C zT_165 132 [some (.inr (.inr (0, 60))), some (.inl a1), some (.inl a2), d3, d4, some (.inl a5), d6, d7, d8] [.inl s0] σ = (C 156 [.inr (.inr (0, 60)), .inl a1, .inl 3] σ).bind fun x0 => if a5 = 0 then (zrun C zT_165 181 [some (.inr (.inr (0, 60))), some (.inl a1), some (.inl a2), none, none, some (.inl a5), some (.inl s0), some (.inl x0.1), none] [.inl (x0.1 + s0)] x0.2.2) else (if a5 = 1 then (zrun C zT_165 181 [some (.inr (.inr (0, 60))), some (.inl a1), some (.inl a2), none, none, some (.inl a5), some (.inl s0), some (.inl x0.1), none] [.inl (x0.1 - s0)] x0.2.2) else (if a5 = 2 then (zrun C zT_165 181 [some (.inr (.inr (0, 60))), some (.inl a1), some (.inl a2), none, none, some (.inl a5), some (.inl s0), some (.inl x0.1), none] [.inl 0] x0.2.2) else (zrun C zT_165 181 [some (.inr (.inr (0, 60))), some (.inl a1), some (.inl a2), none, none, some (.inl a5), some (.inl s0), some (.inl x0.1), none] [.inl x0.1] x0.2.2))) :=
  (zrun_eq C zT_165 [15, 98, 114, 132, 181, 194] 166 _ _ _ _).trans (by rfl)
theorem ez_165_181 (C : zC) (a1 : Int32) (a2 : Int32) (d3 : Option zV) (d4 : Option zV) (d5 : Option zV) (d6 : Option zV) (d7 : Option zV) (d8 : Option zV) (s0 : Int32) (σ : zM) : zrun C zT_165 181 [some (.inr (.inr (0, 60))), some (.inl a1), some (.inl a2), d3, d4, d5, d6, d7, d8] [.inl s0] σ = if s0 < 0 then (zrun C zT_165 194 [some (.inr (.inr (0, 60))), some (.inl a1), some (.inl a2), none, none, none, none, some (.inl s0), none] [.inl 0] σ) else (zrun C zT_165 194 [some (.inr (.inr (0, 60))), some (.inl a1), some (.inl a2), none, none, none, none, some (.inl s0), none] [.inl s0] σ) :=
  (zrun_eq C zT_165 [15, 98, 114, 132, 181, 194] 166 _ _ _ _).trans (by rfl)
theorem ez_165_194 (C : zC) (a1 : Int32) (a2 : Int32) (d3 : Option zV) (d4 : Option zV) (d5 : Option zV) (d6 : Option zV) (d7 : Option zV) (d8 : Option zV) (s0 : Int32) (σ : zM) : zrun C zT_165 194 [some (.inr (.inr (0, 60))), some (.inl a1), some (.inl a2), d3, d4, d5, d6, d7, d8] [.inl s0] σ = (C 156 [.inr (.inr (0, 60)), .inl a1, .inl 2] σ).bind fun x0 => if a2 = 1 then (some ((s0 + (10 * (x0.2.2.1 0 61 4))), 0, x0.2.2)) else (if a2 = 2 then (some ((s0 / 2), 0, x0.2.2)) else (if a2 = 3 then (if ((s0 / 2) - x0.1) < 0 then (some (0, 0, x0.2.2)) else (some (((s0 / 2) - x0.1), 0, x0.2.2))) else (if a2 = 4 then (some ((s0 + 50), 0, x0.2.2)) else (some ((2 * (s0 + 50)), 0, x0.2.2))))) :=
  (zrun_eq C zT_165 [15, 98, 114, 132, 181, 194] 166 _ _ _ _).trans (by rfl)

/-- X12_findHolds ()V -/
theorem ez_166 (d : Nat)  (σ : zM) : zev (d + 1) 166 [.inr (.inr (0, 60))] σ = (fun C : zC => (zrun C zT_166 2 [some (.inr (.inr (0, 60))), some (.inl 0)] [] σ : zR)) (zev d) :=
  (zev_m (T := zT_166) rfl rfl rfl).trans ((zrun_eq (zev d) zT_166 [2] 23 _ _ _ _).trans (by rfl))
theorem ez_166_2 (C : zC) (a1 : Int32) (σ : zM) : zrun C zT_166 2 [some (.inr (.inr (0, 60))), some (.inl a1)] [] σ = if a1 < (σ.1 0 61 0) then ((C 165 [.inr (.inr (0, 60)), .inl a1] σ).bind fun x0 => zgd (zin a1 9) (zrun C zT_166 2 [some (.inr (.inr (0, 60))), some (.inl (a1 + 1))] [] (zwI x0.2.2 0 65 (Int32.toNatClampNeg a1) x0.1))) else (some (0, 0, σ)) :=
  (zrun_eq C zT_166 [2] 23 _ _ _ _).trans (by rfl)

/-- X12_loads (II)V -/
theorem ez_167 (d : Nat) (p0 : Int32) (p1 : Int32) (σ : zM) : zev (d + 1) 167 [.inr (.inr (0, 60)), .inl p0, .inl p1] σ = (fun C : zC => (zrun C zT_167 2 [some (.inr (.inr (0, 60))), some (.inl p0), some (.inl p1), some (.inl p0)] [] σ : zR)) (zev d) :=
  (zev_m (T := zT_167) rfl rfl rfl).trans ((zrun_eq (zev d) zT_167 [2] 23 _ _ _ _).trans (by rfl))
theorem ez_167_2 (C : zC) (d1 : Option zV) (a2 : Int32) (a3 : Int32) (σ : zM) : zrun C zT_167 2 [some (.inr (.inr (0, 60))), d1, some (.inl a2), some (.inl a3)] [] σ = if a3 < 0 then (some (0, 0, σ)) else (zgd (zin a3 9) (zgd (zin a3 9) ((C 158 [.inr (.inr (0, 60)), .inl a3] (zwI σ 0 66 (Int32.toNatClampNeg a3) ((σ.1 0 66 (Int32.toNatClampNeg a3)) + a2))).bind fun x0 => zrun C zT_167 2 [some (.inr (.inr (0, 60))), none, some (.inl a2), some (.inl x0.1)] [] x0.2.2))) :=
  (zrun_eq C zT_167 [2] 23 _ _ _ _).trans (by rfl)

/-- X12_findBears ()V -/
theorem ez_168 (d : Nat)  (σ : zM) : zev (d + 1) 168 [.inr (.inr (0, 60))] σ = (fun C : zC => (zrun C zT_168 2 [some (.inr (.inr (0, 60))), some (.inl 0)] [] σ : zR)) (zev d) :=
  (zev_m (T := zT_168) rfl rfl rfl).trans ((zrun_eq (zev d) zT_168 [2, 39] 48 _ _ _ _).trans (by rfl))
theorem ez_168_2 (C : zC) (a1 : Int32) (σ : zM) : zrun C zT_168 2 [some (.inr (.inr (0, 60))), some (.inl a1)] [] σ = if a1 < (σ.1 0 61 0) then ((C 156 [.inr (.inr (0, 60)), .inl a1, .inl 2] σ).bind fun x0 => zgd (zin a1 9) (zrun C zT_168 2 [some (.inr (.inr (0, 60))), some (.inl (a1 + 1))] [] (zwI x0.2.2 0 66 (Int32.toNatClampNeg a1) ((σ.1 0 61 5) * x0.1)))) else (zrun C zT_168 39 [some (.inr (.inr (0, 60))), some (.inl 0)] [] σ) :=
  (zrun_eq C zT_168 [2, 39] 48 _ _ _ _).trans (by rfl)
theorem ez_168_39 (C : zC) (a1 : Int32) (σ : zM) : zrun C zT_168 39 [some (.inr (.inr (0, 60))), some (.inl a1)] [] σ = if a1 < (σ.1 0 61 2) then ((C 179 [.inr (.inr (0, 60)), .inl a1] σ).bind fun x0 => (C 178 [.inr (.inr (0, 60)), .inl a1, .inl 0] x0.2.2).bind fun x1 => (C 167 [.inr (.inr (0, 60)), .inl x0.1, .inl x1.1] x1.2.2).bind fun x2 => zrun C zT_168 39 [some (.inr (.inr (0, 60))), some (.inl (a1 + 1))] [] x2.2.2) else (some (0, 0, σ)) :=
  (zrun_eq C zT_168 [2, 39] 48 _ _ _ _).trans (by rfl)

/-- X12_isCracking (I)Z -/
theorem ez_169 (d : Nat) (p0 : Int32) (σ : zM) : zev (d + 1) 169 [.inr (.inr (0, 60)), .inl p0] σ = (fun C : zC => ((C 157 [.inr (.inr (0, 60)), .inl p0] σ).bind fun x0 => if x0.1 = 0 then (zgd (zin p0 9) (zgd (zin p0 9) (if (x0.2.2.1 0 65 (Int32.toNatClampNeg p0)) < (x0.2.2.1 0 66 (Int32.toNatClampNeg p0)) then (zgd (zret 3 1) (some (1, 0, x0.2.2))) else (zgd (zret 3 0) (some (0, 0, x0.2.2)))))) else (zgd (zret 3 0) (some (0, 0, x0.2.2))) : zR)) (zev d) :=
  (zev_m (T := zT_169) rfl rfl rfl).trans ((zrun_eq (zev d) zT_169 [] 22 _ _ _ _).trans (by rfl))

/-- X12_crackSet ()I -/
theorem ez_170 (d : Nat)  (σ : zM) : zev (d + 1) 170 [.inr (.inr (0, 60))] σ = (fun C : zC => ((C 168 [.inr (.inr (0, 60))] σ).bind fun x0 => zrun C zT_170 8 [some (.inr (.inr (0, 60))), some (.inl 0), some (.inl 0)] [] x0.2.2 : zR)) (zev d) :=
  (zev_m (T := zT_170) rfl rfl rfl).trans ((zrun_eq (zev d) zT_170 [8] 33 _ _ _ _).trans (by rfl))
theorem ez_170_8 (C : zC) (a1 : Int32) (a2 : Int32) (σ : zM) : zrun C zT_170 8 [some (.inr (.inr (0, 60))), some (.inl a1), some (.inl a2)] [] σ = if a2 < (σ.1 0 61 0) then ((C 169 [.inr (.inr (0, 60)), .inl a2] σ).bind fun x0 => if x0.1 = 0 then (zrun C zT_170 8 [some (.inr (.inr (0, 60))), some (.inl (a1 ||| 0)), some (.inl (a2 + 1))] [] x0.2.2) else (zrun C zT_170 8 [some (.inr (.inr (0, 60))), some (.inl (a1 ||| (1 <<< (a2 &&& 31)))), some (.inl (a2 + 1))] [] x0.2.2)) else (some (a1, 0, σ)) :=
  (zrun_eq C zT_170 [8] 33 _ _ _ _).trans (by rfl)

/-- X12_isSafe ()Z -/
theorem ez_171 (d : Nat)  (σ : zM) : zev (d + 1) 171 [.inr (.inr (0, 60))] σ = (fun C : zC => ((C 170 [.inr (.inr (0, 60))] σ).bind fun x0 => if x0.1 = 0 then (zgd (zret 3 1) (some (1, 0, x0.2.2))) else (zgd (zret 3 0) (some (0, 0, x0.2.2))) : zR)) (zev d) :=
  (zev_m (T := zT_171) rfl rfl rfl).trans ((zrun_eq (zev d) zT_171 [] 12 _ _ _ _).trans (by rfl))

/-- X12_findAll ()V -/
theorem ez_172 (d : Nat)  (σ : zM) : zev (d + 1) 172 [.inr (.inr (0, 60))] σ = (fun C : zC => ((C 166 [.inr (.inr (0, 60))] σ).bind fun x0 => (C 168 [.inr (.inr (0, 60))] x0.2.2).bind fun x1 => some (0, 0, x1.2.2) : zR)) (zev d) :=
  (zev_m (T := zT_172) rfl rfl rfl).trans ((zrun_eq (zev d) zT_172 [] 10 _ _ _ _).trans (by rfl))

/-- X12_boughOf (II)I -/
theorem ez_173 (d : Nat) (p0 : Int32) (p1 : Int32) (σ : zM) : zev (d + 1) 173 [.inr (.inr (0, 60)), .inl p0, .inl p1] σ = (fun C : zC => ((C 150 [.inr (.inr (0, 60)), .inl p0] σ).bind fun x0 => if x0.1 = 0 then (some ((-1), 0, x0.2.2)) else ((C 149 [.inr (.inl (Int32.toInt64 p1)), .inr (.inl 0), .inr (.inl 6)] x0.2.2).bind fun x1 => if x1.1 = 0 then (some ((-1), 0, x1.2.2)) else ((C 172 [.inr (.inr (0, 60))] x1.2.2).bind fun x2 => if p1 = 1 then ((C 158 [.inr (.inr (0, 60)), .inl p0] x2.2.2).bind fun x3 => if x3.1 < 0 then (some ((-9), 0, x3.2.2)) else ((C 158 [.inr (.inr (0, 60)), .inl p0] x3.2.2).bind fun x4 => some (x4.1, 0, x4.2.2))) else if p1 = 2 then ((C 156 [.inr (.inr (0, 60)), .inl p0, .inl p1] x2.2.2).bind fun x5 => some (x5.1, 0, x5.2.2)) else if p1 = 3 then ((C 156 [.inr (.inr (0, 60)), .inl p0, .inl p1] x2.2.2).bind fun x6 => some (x6.1, 0, x6.2.2)) else if p1 = 4 then (zgd (zin p0 9) (some ((x2.2.2.1 0 65 (Int32.toNatClampNeg p0)), 0, x2.2.2))) else if p1 = 5 then (zgd (zin p0 9) (some ((x2.2.2.1 0 66 (Int32.toNatClampNeg p0)), 0, x2.2.2))) else if p1 = 6 then ((C 157 [.inr (.inr (0, 60)), .inl p0] x2.2.2).bind fun x7 => if x7.1 = 0 then ((C 169 [.inr (.inr (0, 60)), .inl p0] x7.2.2).bind fun x8 => if x8.1 = 0 then (some (0, 0, x8.2.2)) else (some (1, 0, x8.2.2))) else (some (2, 0, x7.2.2))) else ((C 156 [.inr (.inr (0, 60)), .inl p0, .inl p1] x2.2.2).bind fun x9 => some (x9.1, 0, x9.2.2)))) : zR)) (zev d) :=
  (zev_m (T := zT_173) rfl rfl rfl).trans ((zrun_eq (zev d) zT_173 [] 60 _ _ _ _).trans (by rfl))

/-- X12_change (III)I -/
theorem ez_174 (d : Nat) (p0 : Int32) (p1 : Int32) (p2 : Int32) (σ : zM) : zev (d + 1) 174 [.inr (.inr (0, 60)), .inl p0, .inl p1, .inl p2] σ = (fun C : zC => ((C 150 [.inr (.inr (0, 60)), .inl p0] σ).bind fun x0 => if x0.1 = 0 then (some ((-1), 0, x0.2.2)) else ((C 159 [.inl p1, .inl p2] x0.2.2).bind fun x1 => if x1.1 = 0 then (some ((-1), 0, x1.2.2)) else ((C 156 [.inr (.inr (0, 60)), .inl p0, .inl p1] x1.2.2).bind fun x2 => (C 155 [.inl p0, .inl p1] x2.2.2).bind fun x3 => zgd (zin x3.1 320) (some (x2.1, 0, zwI x3.2.2 0 61 (Int32.toNatClampNeg x3.1) p2)))) : zR)) (zev d) :=
  (zev_m (T := zT_174) rfl rfl rfl).trans ((zrun_eq (zev d) zT_174 [] 29 _ _ _ _).trans (by rfl))

/-- X12_graft (II)I -/
theorem ez_175 (d : Nat) (p0 : Int32) (p1 : Int32) (σ : zM) : zev (d + 1) 175 [.inr (.inr (0, 60)), .inl p0, .inl p1] σ = (fun C : zC => ((C 150 [.inr (.inr (0, 60)), .inl p0] σ).bind fun x0 => if x0.1 = 0 then (some ((-1), 0, x0.2.2)) else ((C 149 [.inr (.inl (Int32.toInt64 p1)), .inr (.inl 1), .inr (.inl 5)] x0.2.2).bind fun x1 => if x1.1 = 0 then (some ((-1), 0, x1.2.2)) else ((C 156 [.inr (.inr (0, 60)), .inl p0, .inl 0] x1.2.2).bind fun x2 => (C 155 [.inl p0, .inl 0] x2.2.2).bind fun x3 => zgd (zin x3.1 320) (some (x2.1, 0, zwI x3.2.2 0 61 (Int32.toNatClampNeg x3.1) p1)))) : zR)) (zev d) :=
  (zev_m (T := zT_175) rfl rfl rfl).trans ((zrun_eq (zev d) zT_175 [] 31 _ _ _ _).trans (by rfl))

/-- X12_weather (II)I -/
theorem ez_176 (d : Nat) (p0 : Int32) (p1 : Int32) (σ : zM) : zev (d + 1) 176 [.inr (.inr (0, 60)), .inl p0, .inl p1] σ = (fun C : zC => ((C 149 [.inr (.inl (Int32.toInt64 p0)), .inr (.inl 0), .inr (.inl 1)] σ).bind fun x0 => if x0.1 = 0 then (some ((-1), 0, x0.2.2)) else ((C 149 [.inr (.inl (Int32.toInt64 p1)), .inr (.inl 0), .inr (.inl 9)] x0.2.2).bind fun x1 => if x1.1 = 0 then (some ((-1), 0, x1.2.2)) else (zgd (zin (4 + p0) 320) (zgd (zin (4 + p0) 320) (some ((x1.2.2.1 0 61 (Int32.toNatClampNeg (4 + p0))), 0, zwI x1.2.2 0 61 (Int32.toNatClampNeg (4 + p0)) p1))))) : zR)) (zev d) :=
  (zev_m (T := zT_176) rfl rfl rfl).trans ((zrun_eq (zev d) zT_176 [] 35 _ _ _ _).trans (by rfl))

/-- X12_where (II)I -/
theorem ez_177 (d : Nat) (p0 : Int32) (p1 : Int32) (σ : zM) : zev (d + 1) 177 [.inl p0, .inl p1] σ = (fun C : zC => (some (((52 + (3 * p0)) + p1), 0, σ) : zR)) (zev d) :=
  (zev_m (T := zT_177) rfl rfl rfl).trans ((zrun_eq (zev d) zT_177 [] 13 _ _ _ _).trans (by rfl))

/-- X12_whose (II)I -/
theorem ez_178 (d : Nat) (p0 : Int32) (p1 : Int32) (σ : zM) : zev (d + 1) 178 [.inr (.inr (0, 60)), .inl p0, .inl p1] σ = (fun C : zC => ((C 177 [.inl p0, .inl p1] σ).bind fun x0 => zgd (zin x0.1 320) (some ((x0.2.2.1 0 61 (Int32.toNatClampNeg x0.1)), 0, x0.2.2)) : zR)) (zev d) :=
  (zev_m (T := zT_178) rfl rfl rfl).trans ((zrun_eq (zev d) zT_178 [] 12 _ _ _ _).trans (by rfl))

/-- X12_seatOf (I)I -/
theorem ez_179 (d : Nat) (p0 : Int32) (σ : zM) : zev (d + 1) 179 [.inr (.inr (0, 60)), .inl p0] σ = (fun C : zC => ((C 178 [.inr (.inr (0, 60)), .inl p0, .inl 2] σ).bind fun x0 => some ((x0.1 - 1), 0, x0.2.2) : zR)) (zev d) :=
  (zev_m (T := zT_179) rfl rfl rfl).trans ((zrun_eq (zev d) zT_179 [] 12 _ _ _ _).trans (by rfl))

/-- X12_seats (II)V -/
theorem ez_180 (d : Nat) (p0 : Int32) (p1 : Int32) (σ : zM) : zev (d + 1) 180 [.inr (.inr (0, 60)), .inl p0, .inl p1] σ = (fun C : zC => ((C 177 [.inl p0, .inl 2] σ).bind fun x0 => zgd (zin x0.1 320) (some (0, 0, zwI x0.2.2 0 61 (Int32.toNatClampNeg x0.1) (p1 + 1))) : zR)) (zev d) :=
  (zev_m (T := zT_180) rfl rfl rfl).trans ((zrun_eq (zev d) zT_180 [] 15 _ _ _ _).trans (by rfl))

/-- X12_person (II)I -/
theorem ez_181 (d : Nat) (p0 : Int32) (p1 : Int32) (σ : zM) : zev (d + 1) 181 [.inr (.inr (0, 60)), .inl p0, .inl p1] σ = (fun C : zC => ((C 149 [.inr (.inl (Int32.toInt64 p0)), .inr (.inl 1), .inr (.inl 200)] σ).bind fun x0 => if x0.1 = 0 then (some ((-1), 0, x0.2.2)) else ((C 149 [.inr (.inl (Int32.toInt64 p1)), .inr (.inl 0), .inr (.inl 1)] x0.2.2).bind fun x1 => if x1.1 = 0 then (some ((-1), 0, x1.2.2)) else (if (x1.2.2.1 0 61 2) = 8 then (some ((-2), 0, x1.2.2)) else ((C 177 [.inl (x1.2.2.1 0 61 2), .inl 0] x1.2.2).bind fun x2 => zgd (zin x2.1 320) ((C 177 [.inl (x1.2.2.1 0 61 2), .inl 1] (zwI x2.2.2 0 61 (Int32.toNatClampNeg x2.1) p0)).bind fun x3 => zgd (zin x3.1 320) ((C 177 [.inl (x1.2.2.1 0 61 2), .inl 2] (zwI x3.2.2 0 61 (Int32.toNatClampNeg x3.1) p1)).bind fun x4 => zgd (zin x4.1 320) (some ((x1.2.2.1 0 61 2), 0, zwI (zwI x4.2.2 0 61 (Int32.toNatClampNeg x4.1) 0) 0 61 2 (((zwI x4.2.2 0 61 (Int32.toNatClampNeg x4.1) 0).1 0 61 2) + 1)))))))) : zR)) (zev d) :=
  (zev_m (T := zT_181) rfl rfl rfl).trans ((zrun_eq (zev d) zT_181 [] 63 _ _ _ _).trans (by rfl))

/-- X12_toldSeat (I)I -/
theorem ez_182 (d : Nat) (p0 : Int32) (σ : zM) : zev (d + 1) 182 [.inr (.inr (0, 60)), .inl p0] σ = (fun C : zC => ((C 179 [.inr (.inr (0, 60)), .inl p0] σ).bind fun x0 => if x0.1 < 0 then (some ((-9), 0, x0.2.2)) else ((C 179 [.inr (.inr (0, 60)), .inl p0] x0.2.2).bind fun x1 => some (x1.1, 0, x1.2.2)) : zR)) (zev d) :=
  (zev_m (T := zT_182) rfl rfl rfl).trans ((zrun_eq (zev d) zT_182 [] 15 _ _ _ _).trans (by rfl))

/-- X12_personOf (II)I -/
theorem ez_183 (d : Nat) (p0 : Int32) (p1 : Int32) (σ : zM) : zev (d + 1) 183 [.inr (.inr (0, 60)), .inl p0, .inl p1] σ = (fun C : zC => ((C 151 [.inr (.inr (0, 60)), .inl p0] σ).bind fun x0 => if x0.1 = 0 then (some ((-1), 0, x0.2.2)) else ((C 149 [.inr (.inl (Int32.toInt64 p1)), .inr (.inl 0), .inr (.inl 2)] x0.2.2).bind fun x1 => if x1.1 = 0 then (some ((-1), 0, x1.2.2)) else (if p1 < 2 then ((C 178 [.inr (.inr (0, 60)), .inl p0, .inl p1] x1.2.2).bind fun x2 => some (x2.1, 0, x2.2.2)) else ((C 182 [.inr (.inr (0, 60)), .inl p0] x1.2.2).bind fun x3 => some (x3.1, 0, x3.2.2)))) : zR)) (zev d) :=
  (zev_m (T := zT_183) rfl rfl rfl).trans ((zrun_eq (zev d) zT_183 [] 29 _ _ _ _).trans (by rfl))

/-- X12_sit (II)I -/
theorem ez_184 (d : Nat) (p0 : Int32) (p1 : Int32) (σ : zM) : zev (d + 1) 184 [.inr (.inr (0, 60)), .inl p0, .inl p1] σ = (fun C : zC => ((C 151 [.inr (.inr (0, 60)), .inl p0] σ).bind fun x0 => if x0.1 = 0 then (some ((-1), 0, x0.2.2)) else ((C 150 [.inr (.inr (0, 60)), .inl p1] x0.2.2).bind fun x1 => if x1.1 = 0 then (some ((-1), 0, x1.2.2)) else ((C 157 [.inr (.inr (0, 60)), .inl p1] x1.2.2).bind fun x2 => if x2.1 = 0 then ((C 182 [.inr (.inr (0, 60)), .inl p0] x2.2.2).bind fun x3 => (C 180 [.inr (.inr (0, 60)), .inl p0, .inl p1] x3.2.2).bind fun x4 => some (x3.1, 0, x4.2.2)) else (some ((-4), 0, x2.2.2)))) : zR)) (zev d) :=
  (zev_m (T := zT_184) rfl rfl rfl).trans ((zrun_eq (zev d) zT_184 [] 31 _ _ _ _).trans (by rfl))

/-- X12_down (I)I -/
theorem ez_185 (d : Nat) (p0 : Int32) (σ : zM) : zev (d + 1) 185 [.inr (.inr (0, 60)), .inl p0] σ = (fun C : zC => ((C 151 [.inr (.inr (0, 60)), .inl p0] σ).bind fun x0 => if x0.1 = 0 then (some ((-1), 0, x0.2.2)) else ((C 182 [.inr (.inr (0, 60)), .inl p0] x0.2.2).bind fun x1 => (C 180 [.inr (.inr (0, 60)), .inl p0, .inl (-1)] x1.2.2).bind fun x2 => some (x1.1, 0, x2.2.2)) : zR)) (zev d) :=
  (zev_m (T := zT_185) rfl rfl rfl).trans ((zrun_eq (zev d) zT_185 [] 21 _ _ _ _).trans (by rfl))

/-- X12_cracks ()I -/
theorem ez_186 (d : Nat)  (σ : zM) : zev (d + 1) 186 [.inr (.inr (0, 60))] σ = (fun C : zC => ((C 166 [.inr (.inr (0, 60))] σ).bind fun x0 => (C 170 [.inr (.inr (0, 60))] x0.2.2).bind fun x1 => some (x1.1, 0, x1.2.2) : zR)) (zev d) :=
  (zev_m (T := zT_186) rfl rfl rfl).trans ((zrun_eq (zev d) zT_186 [] 10 _ _ _ _).trans (by rfl))

/-- X12_worstOf ()I -/
theorem ez_187 (d : Nat)  (σ : zM) : zev (d + 1) 187 [.inr (.inr (0, 60))] σ = (fun C : zC => ((C 168 [.inr (.inr (0, 60))] σ).bind fun x0 => zrun C zT_187 8 [some (.inr (.inr (0, 60))), some (.inl (-1)), some (.inl 0)] [] x0.2.2 : zR)) (zev d) :=
  (zev_m (T := zT_187) rfl rfl rfl).trans ((zrun_eq (zev d) zT_187 [8] 50 _ _ _ _).trans (by rfl))
theorem ez_187_8 (C : zC) (a1 : Int32) (a2 : Int32) (σ : zM) : zrun C zT_187 8 [some (.inr (.inr (0, 60))), some (.inl a1), some (.inl a2)] [] σ = if a2 < (σ.1 0 61 0) then ((C 157 [.inr (.inr (0, 60)), .inl a2] σ).bind fun x0 => if x0.1 = 0 then (if a1 < 0 then (zrun C zT_187 8 [some (.inr (.inr (0, 60))), some (.inl a2), some (.inl (a2 + 1))] [] x0.2.2) else (zgd (zin a2 9) (zgd (zin a2 9) (zgd (zin a1 9) (zgd (zin a1 9) (if ((x0.2.2.1 0 66 (Int32.toNatClampNeg a1)) - (x0.2.2.1 0 65 (Int32.toNatClampNeg a1))) < ((x0.2.2.1 0 66 (Int32.toNatClampNeg a2)) - (x0.2.2.1 0 65 (Int32.toNatClampNeg a2))) then (zrun C zT_187 8 [some (.inr (.inr (0, 60))), some (.inl a2), some (.inl (a2 + 1))] [] x0.2.2) else (zrun C zT_187 8 [some (.inr (.inr (0, 60))), some (.inl a1), some (.inl (a2 + 1))] [] x0.2.2))))))) else (zrun C zT_187 8 [some (.inr (.inr (0, 60))), some (.inl a1), some (.inl (a2 + 1))] [] x0.2.2)) else (some (a1, 0, σ)) :=
  (zrun_eq C zT_187 [8] 50 _ _ _ _).trans (by rfl)

/-- X12_worst ()I -/
theorem ez_188 (d : Nat)  (σ : zM) : zev (d + 1) 188 [.inr (.inr (0, 60))] σ = (fun C : zC => ((C 166 [.inr (.inr (0, 60))] σ).bind fun x0 => (C 187 [.inr (.inr (0, 60))] x0.2.2).bind fun x1 => if x1.1 < 0 then (some ((-3), 0, x1.2.2)) else (some (x1.1, 0, x1.2.2)) : zR)) (zev d) :=
  (zev_m (T := zT_188) rfl rfl rfl).trans ((zrun_eq (zev d) zT_188 [] 16 _ _ _ _).trans (by rfl))

/-- X12_isAbove (II)Z -/
theorem ez_189 (d : Nat) (p0 : Int32) (p1 : Int32) (σ : zM) : zev (d + 1) 189 [.inr (.inr (0, 60)), .inl p0, .inl p1] σ = (fun C : zC => (zrun C zT_189 2 [some (.inr (.inr (0, 60))), some (.inl p0), some (.inl p1), some (.inl p0)] [] σ : zR)) (zev d) :=
  (zev_m (T := zT_189) rfl rfl rfl).trans ((zrun_eq (zev d) zT_189 [2] 24 _ _ _ _).trans (by rfl))
theorem ez_189_2 (C : zC) (d1 : Option zV) (a2 : Int32) (a3 : Int32) (σ : zM) : zrun C zT_189 2 [some (.inr (.inr (0, 60))), d1, some (.inl a2), some (.inl a3)] [] σ = if a3 < 0 then (if a3 = a2 then (zgd (zret 3 1) (some (1, 0, σ))) else (zgd (zret 3 0) (some (0, 0, σ)))) else (if a3 = a2 then (if a3 = a2 then (zgd (zret 3 1) (some (1, 0, σ))) else (zgd (zret 3 0) (some (0, 0, σ)))) else ((C 158 [.inr (.inr (0, 60)), .inl a3] σ).bind fun x0 => zrun C zT_189 2 [some (.inr (.inr (0, 60))), none, some (.inl a2), some (.inl x0.1)] [] x0.2.2)) :=
  (zrun_eq C zT_189 [2] 24 _ _ _ _).trans (by rfl)

/-- X12_falls ()I -/
theorem ez_190 (d : Nat)  (σ : zM) : zev (d + 1) 190 [.inr (.inr (0, 60))] σ = (fun C : zC => ((C 166 [.inr (.inr (0, 60))] σ).bind fun x0 => (C 187 [.inr (.inr (0, 60))] x0.2.2).bind fun x1 => zrun C zT_190 11 [some (.inr (.inr (0, 60))), some (.inl 0), some (.inl x1.1), none] [] x1.2.2 : zR)) (zev d) :=
  (zev_m (T := zT_190) rfl rfl rfl).trans ((zrun_eq (zev d) zT_190 [11, 25, 72] 77 _ _ _ _).trans (by rfl))
theorem ez_190_11 (C : zC) (a1 : Int32) (a2 : Int32) (d3 : Option zV) (σ : zM) : zrun C zT_190 11 [some (.inr (.inr (0, 60))), some (.inl a1), some (.inl a2), d3] [] σ = if a2 < 0 then (some (a1, 0, σ)) else ((C 169 [.inr (.inr (0, 60)), .inl a2] σ).bind fun x0 => if x0.1 = 0 then (some (a1, 0, x0.2.2)) else (zrun C zT_190 25 [some (.inr (.inr (0, 60))), some (.inl a1), some (.inl a2), some (.inl 0)] [] x0.2.2)) :=
  (zrun_eq C zT_190 [11, 25, 72] 77 _ _ _ _).trans (by rfl)
theorem ez_190_25 (C : zC) (a1 : Int32) (a2 : Int32) (a3 : Int32) (σ : zM) : zrun C zT_190 25 [some (.inr (.inr (0, 60))), some (.inl a1), some (.inl a2), some (.inl a3)] [] σ = if a3 < (σ.1 0 61 0) then ((C 155 [.inl a3, .inl 4] σ).bind fun x0 => (C 189 [.inr (.inr (0, 60)), .inl a3, .inl a2] x0.2.2).bind fun x1 => if x1.1 = 0 then ((C 156 [.inr (.inr (0, 60)), .inl a3, .inl 4] x1.2.2).bind fun x2 => zgd (zin x0.1 320) (zrun C zT_190 25 [some (.inr (.inr (0, 60))), some (.inl a1), some (.inl a2), some (.inl (a3 + 1))] [] (zwI x2.2.2 0 61 (Int32.toNatClampNeg x0.1) x2.1))) else (zgd (zin x0.1 320) (zrun C zT_190 25 [some (.inr (.inr (0, 60))), some (.inl a1), some (.inl a2), some (.inl (a3 + 1))] [] (zwI x1.2.2 0 61 (Int32.toNatClampNeg x0.1) 1)))) else (zrun C zT_190 72 [some (.inr (.inr (0, 60))), some (.inl a1), some (.inl a2), some (.inl 0)] [] σ) :=
  (zrun_eq C zT_190 [11, 25, 72] 77 _ _ _ _).trans (by rfl)
theorem ez_190_72 (C : zC) (a1 : Int32) (a2 : Int32) (a3 : Int32) (σ : zM) : zrun C zT_190 72 [some (.inr (.inr (0, 60))), some (.inl a1), some (.inl a2), some (.inl a3)] [] σ = if a3 < (σ.1 0 61 2) then ((C 179 [.inr (.inr (0, 60)), .inl a3] σ).bind fun x0 => if x0.1 < 0 then (zrun C zT_190 72 [some (.inr (.inr (0, 60))), some (.inl a1), some (.inl a2), some (.inl (a3 + 1))] [] x0.2.2) else ((C 179 [.inr (.inr (0, 60)), .inl a3] x0.2.2).bind fun x1 => (C 189 [.inr (.inr (0, 60)), .inl x1.1, .inl a2] x1.2.2).bind fun x2 => if x2.1 = 0 then (zrun C zT_190 72 [some (.inr (.inr (0, 60))), some (.inl a1), some (.inl a2), some (.inl (a3 + 1))] [] x2.2.2) else ((C 180 [.inr (.inr (0, 60)), .inl a3, .inl (-1)] x2.2.2).bind fun x3 => zrun C zT_190 72 [some (.inr (.inr (0, 60))), some (.inl (a1 + 1)), some (.inl a2), some (.inl (a3 + 1))] [] x3.2.2))) else ((C 187 [.inr (.inr (0, 60))] σ).bind fun x4 => zrun C zT_190 11 [some (.inr (.inr (0, 60))), some (.inl a1), some (.inl x4.1), some (.inl a3)] [] x4.2.2) :=
  (zrun_eq C zT_190 [11, 25, 72] 77 _ _ _ _).trans (by rfl)

/-- X12_fall ()I -/
theorem ez_191 (d : Nat)  (σ : zM) : zev (d + 1) 191 [.inr (.inr (0, 60))] σ = (fun C : zC => ((C 190 [.inr (.inr (0, 60))] σ).bind fun x0 => some (x0.1, 0, x0.2.2) : zR)) (zev d) :=
  (zev_m (T := zT_191) rfl rfl rfl).trans ((zrun_eq (zev d) zT_191 [] 8 _ _ _ _).trans (by rfl))

/-- X12_would ()I -/
theorem ez_192 (d : Nat)  (σ : zM) : zev (d + 1) 192 [.inr (.inr (0, 60))] σ = (fun C : zC => ((C 153 [.inr (.inr (0, 60))] σ).bind fun x0 => (C 190 [.inr (.inr (0, 60))] x0.2.2).bind fun x1 => (C 154 [.inr (.inr (0, 60))] x1.2.2).bind fun x2 => some (x1.1, 0, x2.2.2) : zR)) (zev d) :=
  (zev_m (T := zT_192) rfl rfl rfl).trans ((zrun_eq (zev d) zT_192 [] 14 _ _ _ _).trans (by rfl))

/-- X12_findStanding ()V -/
theorem ez_193 (d : Nat)  (σ : zM) : zev (d + 1) 193 [.inr (.inr (0, 60))] σ = (fun C : zC => ((C 153 [.inr (.inr (0, 60))] σ).bind fun x0 => (C 190 [.inr (.inr (0, 60))] x0.2.2).bind fun x1 => zrun C zT_193 25 [some (.inr (.inr (0, 60))), some (.inl x1.1), some (.inl 0)] [] (zwI (zwI x1.2.2 0 67 0 0) 0 67 1 0) : zR)) (zev d) :=
  (zev_m (T := zT_193) rfl rfl rfl).trans ((zrun_eq (zev d) zT_193 [25] 53 _ _ _ _).trans (by rfl))
theorem ez_193_25 (C : zC) (d1 : Option zV) (a2 : Int32) (σ : zM) : zrun C zT_193 25 [some (.inr (.inr (0, 60))), d1, some (.inl a2)] [] σ = if a2 < (σ.1 0 61 2) then ((C 178 [.inr (.inr (0, 60)), .inl a2, .inl 1] σ).bind fun x0 => zgd (zin x0.1 2) ((C 179 [.inr (.inr (0, 60)), .inl a2] x0.2.2).bind fun x1 => if x1.1 < 0 then (zgd (zin x0.1 2) (zrun C zT_193 25 [some (.inr (.inr (0, 60))), none, some (.inl (a2 + 1))] [] (zwI x1.2.2 0 67 (Int32.toNatClampNeg x0.1) ((x0.2.2.1 0 67 (Int32.toNatClampNeg x0.1)) + 0)))) else ((C 178 [.inr (.inr (0, 60)), .inl a2, .inl 0] x1.2.2).bind fun x2 => zgd (zin x0.1 2) (zrun C zT_193 25 [some (.inr (.inr (0, 60))), none, some (.inl (a2 + 1))] [] (zwI x2.2.2 0 67 (Int32.toNatClampNeg x0.1) ((x0.2.2.1 0 67 (Int32.toNatClampNeg x0.1)) + x2.1)))))) else ((C 154 [.inr (.inr (0, 60))] σ).bind fun x3 => some (0, 0, x3.2.2)) :=
  (zrun_eq C zT_193 [25] 53 _ _ _ _).trans (by rfl)

/-- X12_standing (I)I -/
theorem ez_194 (d : Nat) (p0 : Int32) (σ : zM) : zev (d + 1) 194 [.inr (.inr (0, 60)), .inl p0] σ = (fun C : zC => ((C 149 [.inr (.inl (Int32.toInt64 p0)), .inr (.inl 0), .inr (.inl 1)] σ).bind fun x0 => if x0.1 = 0 then (some ((-1), 0, x0.2.2)) else ((C 193 [.inr (.inr (0, 60))] x0.2.2).bind fun x1 => zgd (zin p0 2) (some ((x1.2.2.1 0 67 (Int32.toNatClampNeg p0)), 0, x1.2.2))) : zR)) (zev d) :=
  (zev_m (T := zT_194) rfl rfl rfl).trans ((zrun_eq (zev d) zT_194 [] 20 _ _ _ _).trans (by rfl))

/-- X12_verdict ()I -/
theorem ez_195 (d : Nat)  (σ : zM) : zev (d + 1) 195 [.inr (.inr (0, 60))] σ = (fun C : zC => ((C 193 [.inr (.inr (0, 60))] σ).bind fun x0 => if (x0.2.2.1 0 67 1) < (x0.2.2.1 0 67 0) then (some (0, 0, x0.2.2)) else (if (x0.2.2.1 0 67 0) < (x0.2.2.1 0 67 1) then (some (1, 0, x0.2.2)) else (some (2, 0, x0.2.2))) : zR)) (zev d) :=
  (zev_m (T := zT_195) rfl rfl rfl).trans ((zrun_eq (zev d) zT_195 [] 31 _ _ _ _).trans (by rfl))

/-- X12_roomOf (I)I -/
theorem ez_196 (d : Nat) (p0 : Int32) (σ : zM) : zev (d + 1) 196 [.inr (.inr (0, 60)), .inl p0] σ = (fun C : zC => (zgd (zin p0 9) (zgd (zin p0 9) (zrun C zT_196 16 [some (.inr (.inr (0, 60))), some (.inl p0), some (.inl ((σ.1 0 65 (Int32.toNatClampNeg p0)) - (σ.1 0 66 (Int32.toNatClampNeg p0)))), some (.inl p0)] [] σ)) : zR)) (zev d) :=
  (zev_m (T := zT_196) rfl rfl rfl).trans ((zrun_eq (zev d) zT_196 [16] 53 _ _ _ _).trans (by rfl))
theorem ez_196_16 (C : zC) (d1 : Option zV) (a2 : Int32) (a3 : Int32) (σ : zM) : zrun C zT_196 16 [some (.inr (.inr (0, 60))), d1, some (.inl a2), some (.inl a3)] [] σ = if a3 < 0 then (if a2 < 0 then (some (0, 0, σ)) else (some (a2, 0, σ))) else (zgd (zin a3 9) (zgd (zin a3 9) (if ((σ.1 0 65 (Int32.toNatClampNeg a3)) - (σ.1 0 66 (Int32.toNatClampNeg a3))) < a2 then (zgd (zin a3 9) (zgd (zin a3 9) ((C 158 [.inr (.inr (0, 60)), .inl a3] σ).bind fun x0 => zrun C zT_196 16 [some (.inr (.inr (0, 60))), none, some (.inl ((σ.1 0 65 (Int32.toNatClampNeg a3)) - (σ.1 0 66 (Int32.toNatClampNeg a3)))), some (.inl x0.1)] [] x0.2.2))) else ((C 158 [.inr (.inr (0, 60)), .inl a3] σ).bind fun x1 => zrun C zT_196 16 [some (.inr (.inr (0, 60))), none, some (.inl a2), some (.inl x1.1)] [] x1.2.2)))) :=
  (zrun_eq C zT_196 [16] 53 _ _ _ _).trans (by rfl)

/-- X12_room (I)I -/
theorem ez_197 (d : Nat) (p0 : Int32) (σ : zM) : zev (d + 1) 197 [.inr (.inr (0, 60)), .inl p0] σ = (fun C : zC => ((C 150 [.inr (.inr (0, 60)), .inl p0] σ).bind fun x0 => if x0.1 = 0 then (some ((-1), 0, x0.2.2)) else ((C 157 [.inr (.inr (0, 60)), .inl p0] x0.2.2).bind fun x1 => if x1.1 = 0 then ((C 172 [.inr (.inr (0, 60))] x1.2.2).bind fun x2 => (C 196 [.inr (.inr (0, 60)), .inl p0] x2.2.2).bind fun x3 => some (x3.1, 0, x3.2.2)) else (some ((-4), 0, x1.2.2))) : zR)) (zev d) :=
  (zev_m (T := zT_197) rfl rfl rfl).trans ((zrun_eq (zev d) zT_197 [] 23 _ _ _ _).trans (by rfl))

/-- X12_best (I)I -/
theorem ez_198 (d : Nat) (p0 : Int32) (σ : zM) : zev (d + 1) 198 [.inr (.inr (0, 60)), .inl p0] σ = (fun C : zC => ((C 151 [.inr (.inr (0, 60)), .inl p0] σ).bind fun x0 => if x0.1 = 0 then (some ((-1), 0, x0.2.2)) else ((C 179 [.inr (.inr (0, 60)), .inl p0] x0.2.2).bind fun x1 => (C 180 [.inr (.inr (0, 60)), .inl p0, .inl (-1)] x1.2.2).bind fun x2 => (C 172 [.inr (.inr (0, 60))] x2.2.2).bind fun x3 => (C 180 [.inr (.inr (0, 60)), .inl p0, .inl x1.1] x3.2.2).bind fun x4 => zrun C zT_198 37 [some (.inr (.inr (0, 60))), some (.inl p0), some (.inl x1.1), some (.inl (-1)), some (.inl 0)] [] x4.2.2) : zR)) (zev d) :=
  (zev_m (T := zT_198) rfl rfl rfl).trans ((zrun_eq (zev d) zT_198 [37] 60 _ _ _ _).trans (by rfl))
theorem ez_198_37 (C : zC) (d1 : Option zV) (d2 : Option zV) (a3 : Int32) (a4 : Int32) (σ : zM) : zrun C zT_198 37 [some (.inr (.inr (0, 60))), d1, d2, some (.inl a3), some (.inl a4)] [] σ = if a4 < (σ.1 0 61 0) then ((C 157 [.inr (.inr (0, 60)), .inl a4] σ).bind fun x0 => if x0.1 = 0 then (if a3 < 0 then (zrun C zT_198 37 [some (.inr (.inr (0, 60))), none, none, some (.inl a4), some (.inl (a4 + 1))] [] x0.2.2) else ((C 196 [.inr (.inr (0, 60)), .inl a4] x0.2.2).bind fun x1 => (C 196 [.inr (.inr (0, 60)), .inl a3] x1.2.2).bind fun x2 => if x2.1 < x1.1 then (zrun C zT_198 37 [some (.inr (.inr (0, 60))), none, none, some (.inl a4), some (.inl (a4 + 1))] [] x2.2.2) else (zrun C zT_198 37 [some (.inr (.inr (0, 60))), none, none, some (.inl a3), some (.inl (a4 + 1))] [] x2.2.2))) else (zrun C zT_198 37 [some (.inr (.inr (0, 60))), none, none, some (.inl a3), some (.inl (a4 + 1))] [] x0.2.2)) else (if a3 < 0 then (some ((-3), 0, σ)) else (some (a3, 0, σ))) :=
  (zrun_eq C zT_198 [37] 60 _ _ _ _).trans (by rfl)

/-- X12_safe (I)I -/
theorem ez_199 (d : Nat) (p0 : Int32) (σ : zM) : zev (d + 1) 199 [.inr (.inr (0, 60)), .inl p0] σ = (fun C : zC => ((C 151 [.inr (.inr (0, 60)), .inl p0] σ).bind fun x0 => if x0.1 = 0 then (some ((-1), 0, x0.2.2)) else ((C 166 [.inr (.inr (0, 60))] x0.2.2).bind fun x1 => (C 179 [.inr (.inr (0, 60)), .inl p0] x1.2.2).bind fun x2 => zrun C zT_199 25 [some (.inr (.inr (0, 60))), some (.inl p0), some (.inl x2.1), some (.inl 0), some (.inl 0)] [] x2.2.2) : zR)) (zev d) :=
  (zev_m (T := zT_199) rfl rfl rfl).trans ((zrun_eq (zev d) zT_199 [25] 54 _ _ _ _).trans (by rfl))
theorem ez_199_25 (C : zC) (a1 : Int32) (a2 : Int32) (a3 : Int32) (a4 : Int32) (σ : zM) : zrun C zT_199 25 [some (.inr (.inr (0, 60))), some (.inl a1), some (.inl a2), some (.inl a3), some (.inl a4)] [] σ = if a4 < (σ.1 0 61 0) then ((C 157 [.inr (.inr (0, 60)), .inl a4] σ).bind fun x0 => if x0.1 = 0 then ((C 180 [.inr (.inr (0, 60)), .inl a1, .inl a4] x0.2.2).bind fun x1 => (C 171 [.inr (.inr (0, 60))] x1.2.2).bind fun x2 => if x2.1 = 0 then (zrun C zT_199 25 [some (.inr (.inr (0, 60))), some (.inl a1), some (.inl a2), some (.inl (a3 ||| 0)), some (.inl (a4 + 1))] [] x2.2.2) else (zrun C zT_199 25 [some (.inr (.inr (0, 60))), some (.inl a1), some (.inl a2), some (.inl (a3 ||| (1 <<< (a4 &&& 31)))), some (.inl (a4 + 1))] [] x2.2.2)) else (zrun C zT_199 25 [some (.inr (.inr (0, 60))), some (.inl a1), some (.inl a2), some (.inl a3), some (.inl (a4 + 1))] [] x0.2.2)) else ((C 180 [.inr (.inr (0, 60)), .inl a1, .inl a2] σ).bind fun x3 => some (a3, 0, x3.2.2)) :=
  (zrun_eq C zT_199 [25] 54 _ _ _ _).trans (by rfl)

/-- X12_prop ()I -/
theorem ez_200 (d : Nat)  (σ : zM) : zev (d + 1) 200 [.inr (.inr (0, 60))] σ = (fun C : zC => ((C 193 [.inr (.inr (0, 60))] σ).bind fun x0 => zrun C zT_200 23 [some (.inr (.inr (0, 60))), some (.inl ((x0.2.2.1 0 67 0) + (x0.2.2.1 0 67 1))), some (.inl (-3)), some (.inl 0), none] [] x0.2.2 : zR)) (zev d) :=
  (zev_m (T := zT_200) rfl rfl rfl).trans ((zrun_eq (zev d) zT_200 [23, 90] 90 _ _ _ _).trans (by rfl))
theorem ez_200_23 (C : zC) (a1 : Int32) (a2 : Int32) (a3 : Int32) (d4 : Option zV) (σ : zM) : zrun C zT_200 23 [some (.inr (.inr (0, 60))), some (.inl a1), some (.inl a2), some (.inl a3), d4] [] σ = if a3 < (σ.1 0 61 0) then ((C 156 [.inr (.inr (0, 60)), .inl a3, .inl 0] σ).bind fun x0 => (C 155 [.inl a3, .inl 0] x0.2.2).bind fun x1 => zgd (zin x1.1 320) ((C 193 [.inr (.inr (0, 60))] (zwI x1.2.2 0 61 (Int32.toNatClampNeg x1.1) 4)).bind fun x2 => (C 155 [.inl a3, .inl 0] x2.2.2).bind fun x3 => zgd (zin x3.1 320) (if a1 < (((zwI x3.2.2 0 61 (Int32.toNatClampNeg x3.1) x0.1).1 0 67 0) + ((zwI x3.2.2 0 61 (Int32.toNatClampNeg x3.1) x0.1).1 0 67 1)) then (zrun C zT_200 90 [some (.inr (.inr (0, 60))), some (.inl a1), some (.inl a2), some (.inl a3), some (.inl x0.1)] [.inl a3] (zwI x3.2.2 0 61 (Int32.toNatClampNeg x3.1) x0.1)) else (zrun C zT_200 90 [some (.inr (.inr (0, 60))), some (.inl a1), some (.inl a2), some (.inl a3), some (.inl x0.1)] [.inl a2] (zwI x3.2.2 0 61 (Int32.toNatClampNeg x3.1) x0.1))))) else (some (a2, 0, σ)) :=
  (zrun_eq C zT_200 [23, 90] 90 _ _ _ _).trans (by rfl)
theorem ez_200_90 (C : zC) (a1 : Int32) (d2 : Option zV) (a3 : Int32) (d4 : Option zV) (s0 : Int32) (σ : zM) : zrun C zT_200 90 [some (.inr (.inr (0, 60))), some (.inl a1), d2, some (.inl a3), d4] [.inl s0] σ = if a1 < ((σ.1 0 67 0) + (σ.1 0 67 1)) then (zrun C zT_200 23 [some (.inr (.inr (0, 60))), some (.inl ((σ.1 0 67 0) + (σ.1 0 67 1))), some (.inl s0), some (.inl (a3 + 1)), none] [] σ) else (zrun C zT_200 23 [some (.inr (.inr (0, 60))), some (.inl a1), some (.inl s0), some (.inl (a3 + 1)), none] [] σ) :=
  (zrun_eq C zT_200 [23, 90] 90 _ _ _ _).trans (by rfl)

/-- X12_leastOf (IZ)I -/
theorem ez_201 (d : Nat) (p0 : Int32) (p1 : Int32) (σ : zM) : zev (d + 1) 201 [.inr (.inr (0, 60)), .inl p0, .inl p1] σ = (fun C : zC => (zgd (zin (4 + p0) 320) (zrun C zT_201 16 [some (.inr (.inr (0, 60))), some (.inl p0), some (.inl p1), some (.inl (σ.1 0 61 (Int32.toNatClampNeg (4 + p0)))), some (.inl (-3)), some (.inl 0)] [] σ) : zR)) (zev d) :=
  (zev_m (T := zT_201) rfl rfl rfl).trans ((zrun_eq (zev d) zT_201 [16] 49 _ _ _ _).trans (by rfl))
theorem ez_201_16 (C : zC) (a1 : Int32) (a2 : Int32) (a3 : Int32) (a4 : Int32) (a5 : Int32) (σ : zM) : zrun C zT_201 16 [some (.inr (.inr (0, 60))), some (.inl a1), some (.inl a2), some (.inl a3), some (.inl a4), some (.inl a5)] [] σ = if a5 < 10 then (if a4 < 0 then (zgd (zin (4 + a1) 320) ((C 166 [.inr (.inr (0, 60))] (zwI σ 0 61 (Int32.toNatClampNeg (4 + a1)) a5)).bind fun x0 => (C 171 [.inr (.inr (0, 60))] x0.2.2).bind fun x1 => if x1.1 = a2 then (zrun C zT_201 16 [some (.inr (.inr (0, 60))), some (.inl a1), some (.inl a2), some (.inl a3), some (.inl a5), some (.inl (a5 + 1))] [] x1.2.2) else (zrun C zT_201 16 [some (.inr (.inr (0, 60))), some (.inl a1), some (.inl a2), some (.inl a3), some (.inl (-3)), some (.inl (a5 + 1))] [] x1.2.2))) else (zgd (zin (4 + a1) 320) (some (a4, 0, zwI σ 0 61 (Int32.toNatClampNeg (4 + a1)) a3)))) else (zgd (zin (4 + a1) 320) (some (a4, 0, zwI σ 0 61 (Int32.toNatClampNeg (4 + a1)) a3))) :=
  (zrun_eq C zT_201 [16] 49 _ _ _ _).trans (by rfl)

/-- X12_windFor ()I -/
theorem ez_202 (d : Nat)  (σ : zM) : zev (d + 1) 202 [.inr (.inr (0, 60))] σ = (fun C : zC => ((C 201 [.inr (.inr (0, 60)), .inl 1, .inl 0] σ).bind fun x0 => some (x0.1, 0, x0.2.2) : zR)) (zev d) :=
  (zev_m (T := zT_202) rfl rfl rfl).trans ((zrun_eq (zev d) zT_202 [] 10 _ _ _ _).trans (by rfl))

/-- X12_sapFor ()I -/
theorem ez_203 (d : Nat)  (σ : zM) : zev (d + 1) 203 [.inr (.inr (0, 60))] σ = (fun C : zC => ((C 201 [.inr (.inr (0, 60)), .inl 0, .inl 1] σ).bind fun x0 => some (x0.1, 0, x0.2.2) : zR)) (zev d) :=
  (zev_m (T := zT_203) rfl rfl rfl).trans ((zrun_eq (zev d) zT_203 [] 10 _ _ _ _).trans (by rfl))

/-- X12_ones (I)I -/
theorem ez_204 (d : Nat) (p0 : Int32) (σ : zM) : zev (d + 1) 204 [.inl p0] σ = (fun C : zC => (zrun C zT_204 4 [some (.inl p0), some (.inl 0), some (.inl p0)] [] σ : zR)) (zev d) :=
  (zev_m (T := zT_204) rfl rfl rfl).trans ((zrun_eq (zev d) zT_204 [4] 21 _ _ _ _).trans (by rfl))
theorem ez_204_4 (C : zC) (d0 : Option zV) (a1 : Int32) (a2 : Int32) (σ : zM) : zrun C zT_204 4 [d0, some (.inl a1), some (.inl a2)] [] σ = if a2 = 0 then (some (a1, 0, σ)) else (zrun C zT_204 4 [none, some (.inl (a1 + 1)), some (.inl (a2 &&& (a2 - 1)))] [] σ) :=
  (zrun_eq C zT_204 [4] 21 _ _ _ _).trans (by rfl)

/-- X12_isParty (I)Z -/
theorem ez_205 (d : Nat) (p0 : Int32) (σ : zM) : zev (d + 1) 205 [.inr (.inr (0, 60)), .inl p0] σ = (fun C : zC => ((C 149 [.inr (.inl (Int32.toInt64 p0)), .inr (.inl 0), .inr (.inl (Int32.toInt64 ((1 <<< ((σ.1 0 61 2) &&& 31)) - 1)))] σ).bind fun x0 => if x0.1 = 0 then (zgd (zret 3 0) (some (0, 0, x0.2.2))) else ((C 204 [.inl p0] x0.2.2).bind fun x1 => if x1.1 < 5 then (zgd (zret 3 1) (some (1, 0, x1.2.2))) else (zgd (zret 3 0) (some (0, 0, x1.2.2)))) : zR)) (zev d) :=
  (zev_m (T := zT_205) rfl rfl rfl).trans ((zrun_eq (zev d) zT_205 [] 27 _ _ _ _).trans (by rfl))

/-- X12_canSeat (I)Z -/
theorem ez_206 (d : Nat) (p0 : Int32) (σ : zM) : zev (d + 1) 206 [.inr (.inr (0, 60)), .inl p0] σ = (fun C : zC => (if p0 = (σ.1 0 60 11) then ((C 171 [.inr (.inr (0, 60))] σ).bind fun x0 => zgd (zret 3 x0.1) (some (x0.1, 0, x0.2.2))) else (zrun C zT_206 15 [some (.inr (.inr (0, 60))), some (.inl p0), some (.inl 0)] [] σ) : zR)) (zev d) :=
  (zev_m (T := zT_206) rfl rfl rfl).trans ((zrun_eq (zev d) zT_206 [15] 48 _ _ _ _).trans (by rfl))
theorem ez_206_15 (C : zC) (a1 : Int32) (a2 : Int32) (σ : zM) : zrun C zT_206 15 [some (.inr (.inr (0, 60))), some (.inl a1), some (.inl a2)] [] σ = if a2 < (σ.1 0 61 0) then ((C 157 [.inr (.inr (0, 60)), .inl a2] σ).bind fun x0 => if x0.1 = 0 then (zgd (zin a1 8) ((C 180 [.inr (.inr (0, 60)), .inl (x0.2.2.1 0 68 (Int32.toNatClampNeg a1)), .inl a2] x0.2.2).bind fun x1 => zgd (zin a1 8) ((C 206 [.inr (.inr (0, 60)), .inl (a1 + 1)] (zwI x1.2.2 0 70 (Int32.toNatClampNeg a1) a2)).bind fun x2 => if x2.1 = 0 then (zrun C zT_206 15 [some (.inr (.inr (0, 60))), some (.inl a1), some (.inl (a2 + 1))] [] x2.2.2) else (zgd (zret 3 1) (some (1, 0, x2.2.2)))))) else (zrun C zT_206 15 [some (.inr (.inr (0, 60))), some (.inl a1), some (.inl (a2 + 1))] [] x0.2.2)) else (zgd (zret 3 0) (some (0, 0, σ))) :=
  (zrun_eq C zT_206 [15] 48 _ _ _ _).trans (by rfl)

/-- X12_findSeating (I)Z -/
theorem ez_207 (d : Nat) (p0 : Int32) (σ : zM) : zev (d + 1) 207 [.inr (.inr (0, 60)), .inl p0] σ = (fun C : zC => (zrun C zT_207 7 [some (.inr (.inr (0, 60))), some (.inl p0), some (.inl 0), none] [] (zwI σ 0 60 11 0) : zR)) (zev d) :=
  (zev_m (T := zT_207) rfl rfl rfl).trans ((zrun_eq (zev d) zT_207 [7, 77] 68 _ _ _ _).trans (by rfl))
theorem ez_207_7 (C : zC) (a1 : Int32) (a2 : Int32) (d3 : Option zV) (σ : zM) : zrun C zT_207 7 [some (.inr (.inr (0, 60))), some (.inl a1), some (.inl a2), d3] [] σ = if a2 < (σ.1 0 61 2) then ((C 152 [.inl a1, .inl a2] σ).bind fun x0 => if x0.1 = 0 then (zrun C zT_207 7 [some (.inr (.inr (0, 60))), some (.inl a1), some (.inl (a2 + 1)), none] [] x0.2.2) else (zgd (zin (x0.2.2.1 0 60 11) 8) ((C 179 [.inr (.inr (0, 60)), .inl a2] (zwI x0.2.2 0 68 (Int32.toNatClampNeg (x0.2.2.1 0 60 11)) a2)).bind fun x1 => zgd (zin ((zwI x0.2.2 0 68 (Int32.toNatClampNeg (x0.2.2.1 0 60 11)) a2).1 0 60 11) 8) (zrun C zT_207 7 [some (.inr (.inr (0, 60))), some (.inl a1), some (.inl (a2 + 1)), none] [] (zwI (zwI x1.2.2 0 69 (Int32.toNatClampNeg ((zwI x0.2.2 0 68 (Int32.toNatClampNeg (x0.2.2.1 0 60 11)) a2).1 0 60 11)) x1.1) 0 60 11 (((zwI x1.2.2 0 69 (Int32.toNatClampNeg ((zwI x0.2.2 0 68 (Int32.toNatClampNeg (x0.2.2.1 0 60 11)) a2).1 0 60 11)) x1.1).1 0 60 11) + 1)))))) else ((C 166 [.inr (.inr (0, 60))] σ).bind fun x2 => (C 206 [.inr (.inr (0, 60)), .inl 0] x2.2.2).bind fun x3 => zrun C zT_207 77 [some (.inr (.inr (0, 60))), some (.inl a1), some (.inl x3.1), some (.inl 0)] [] x3.2.2) :=
  (zrun_eq C zT_207 [7, 77] 68 _ _ _ _).trans (by rfl)
theorem ez_207_77 (C : zC) (d1 : Option zV) (a2 : Int32) (a3 : Int32) (σ : zM) : zrun C zT_207 77 [some (.inr (.inr (0, 60))), d1, some (.inl a2), some (.inl a3)] [] σ = if a3 < (σ.1 0 60 11) then (zgd (zin a3 8) (zgd (zin a3 8) ((C 180 [.inr (.inr (0, 60)), .inl (σ.1 0 68 (Int32.toNatClampNeg a3)), .inl (σ.1 0 69 (Int32.toNatClampNeg a3))] σ).bind fun x0 => zrun C zT_207 77 [some (.inr (.inr (0, 60))), none, some (.inl a2), some (.inl (a3 + 1))] [] x0.2.2))) else (zgd (zret 3 a2) (some (a2, 0, σ))) :=
  (zrun_eq C zT_207 [7, 77] 68 _ _ _ _).trans (by rfl)

/-- X12_seat (II)I -/
theorem ez_208 (d : Nat) (p0 : Int32) (p1 : Int32) (σ : zM) : zev (d + 1) 208 [.inr (.inr (0, 60)), .inl p0, .inl p1] σ = (fun C : zC => ((C 205 [.inr (.inr (0, 60)), .inl p0] σ).bind fun x0 => if x0.1 = 0 then (some ((-1), 0, x0.2.2)) else ((C 149 [.inr (.inl (Int32.toInt64 p1)), .inr (.inl 0), .inr (.inl 3)] x0.2.2).bind fun x1 => if x1.1 = 0 then (some ((-1), 0, x1.2.2)) else ((C 207 [.inr (.inr (0, 60)), .inl p0] x1.2.2).bind fun x2 => if x2.1 = 0 then (some ((-3), 0, x2.2.2)) else (if p1 < (x2.2.2.1 0 60 11) then (zgd (zin p1 8) (some ((x2.2.2.1 0 70 (Int32.toNatClampNeg p1)), 0, x2.2.2))) else (some ((-3), 0, x2.2.2))))) : zR)) (zev d) :=
  (zev_m (T := zT_208) rfl rfl rfl).trans ((zrun_eq (zev d) zT_208 [] 32 _ _ _ _).trans (by rfl))

/-- X12_seatAll (I)I -/
theorem ez_209 (d : Nat) (p0 : Int32) (σ : zM) : zev (d + 1) 209 [.inr (.inr (0, 60)), .inl p0] σ = (fun C : zC => ((C 205 [.inr (.inr (0, 60)), .inl p0] σ).bind fun x0 => if x0.1 = 0 then (some ((-1), 0, x0.2.2)) else ((C 207 [.inr (.inr (0, 60)), .inl p0] x0.2.2).bind fun x1 => if x1.1 = 0 then (some ((-3), 0, x1.2.2)) else (zrun C zT_209 23 [some (.inr (.inr (0, 60))), some (.inl p0), some (.inl 0)] [] x1.2.2)) : zR)) (zev d) :=
  (zev_m (T := zT_209) rfl rfl rfl).trans ((zrun_eq (zev d) zT_209 [23] 38 _ _ _ _).trans (by rfl))
theorem ez_209_23 (C : zC) (d1 : Option zV) (a2 : Int32) (σ : zM) : zrun C zT_209 23 [some (.inr (.inr (0, 60))), d1, some (.inl a2)] [] σ = if a2 < (σ.1 0 60 11) then (zgd (zin a2 8) (zgd (zin a2 8) ((C 180 [.inr (.inr (0, 60)), .inl (σ.1 0 68 (Int32.toNatClampNeg a2)), .inl (σ.1 0 70 (Int32.toNatClampNeg a2))] σ).bind fun x0 => zrun C zT_209 23 [some (.inr (.inr (0, 60))), none, some (.inl (a2 + 1))] [] x0.2.2))) else (some ((σ.1 0 60 11), 0, σ)) :=
  (zrun_eq C zT_209 [23] 38 _ _ _ _).trans (by rfl)

/-- X12_idler (I)I -/
theorem ez_210 (d : Nat) (p0 : Int32) (σ : zM) : zev (d + 1) 210 [.inr (.inr (0, 60)), .inl p0] σ = (fun C : zC => (zrun C zT_210 2 [some (.inr (.inr (0, 60))), some (.inl p0), some (.inl 0)] [] σ : zR)) (zev d) :=
  (zev_m (T := zT_210) rfl rfl rfl).trans ((zrun_eq (zev d) zT_210 [2] 29 _ _ _ _).trans (by rfl))
theorem ez_210_2 (C : zC) (a1 : Int32) (a2 : Int32) (σ : zM) : zrun C zT_210 2 [some (.inr (.inr (0, 60))), some (.inl a1), some (.inl a2)] [] σ = if a2 < (σ.1 0 61 2) then ((C 178 [.inr (.inr (0, 60)), .inl a2, .inl 1] σ).bind fun x0 => if x0.1 = a1 then ((C 179 [.inr (.inr (0, 60)), .inl a2] x0.2.2).bind fun x1 => if x1.1 < 0 then (some (a2, 0, x1.2.2)) else (zrun C zT_210 2 [some (.inr (.inr (0, 60))), some (.inl a1), some (.inl (a2 + 1))] [] x1.2.2)) else (zrun C zT_210 2 [some (.inr (.inr (0, 60))), some (.inl a1), some (.inl (a2 + 1))] [] x0.2.2)) else (some ((-1), 0, σ)) :=
  (zrun_eq C zT_210 [2] 29 _ _ _ _).trans (by rfl)

/-- X12_worthOf (II)I -/
theorem ez_211 (d : Nat) (p0 : Int32) (p1 : Int32) (σ : zM) : zev (d + 1) 211 [.inl p0, .inl p1] σ = (fun C : zC => (if p1 = 2 then (some (1, 0, σ)) else (if p1 = p0 then (some (2, 0, σ)) else (some (0, 0, σ))) : zR)) (zev d) :=
  (zev_m (T := zT_211) rfl rfl rfl).trans ((zrun_eq (zev d) zT_211 [] 17 _ _ _ _).trans (by rfl))

/-- X12_leadsTo (IIII)I -/
theorem ez_212 (d : Nat) (p0 : Int32) (p1 : Int32) (p2 : Int32) (p3 : Int32) (σ : zM) : zev (d + 1) 212 [.inr (.inr (0, 60)), .inl p0, .inl p1, .inl p2, .inl p3] σ = (fun C : zC => ((C 180 [.inr (.inr (0, 60)), .inl p2, .inl p3] σ).bind fun x0 => (C 171 [.inr (.inr (0, 60))] x0.2.2).bind fun x1 => if x1.1 = 0 then ((C 180 [.inr (.inr (0, 60)), .inl p2, .inl (-1)] x1.2.2).bind fun x2 => some ((1 - p0), 0, x2.2.2)) else ((C 213 [.inr (.inr (0, 60)), .inl (1 - p0), .inl (p1 - 1)] x1.2.2).bind fun x3 => (C 180 [.inr (.inr (0, 60)), .inl p2, .inl (-1)] x3.2.2).bind fun x4 => some (x3.1, 0, x4.2.2)) : zR)) (zev d) :=
  (zev_m (T := zT_212) rfl rfl rfl).trans ((zrun_eq (zev d) zT_212 [] 31 _ _ _ _).trans (by rfl))

/-- X12_valueOf (II)I -/
theorem ez_213 (d : Nat) (p0 : Int32) (p1 : Int32) (σ : zM) : zev (d + 1) 213 [.inr (.inr (0, 60)), .inl p0, .inl p1] σ = (fun C : zC => (if p1 = 0 then (zrun C zT_213 20 [some (.inr (.inr (0, 60))), some (.inl p0), some (.inl p1), some (.inl (-1)), some (.inl (-1)), some (.inl 0), none] [] σ) else ((C 210 [.inr (.inr (0, 60)), .inl p0] σ).bind fun x0 => zrun C zT_213 20 [some (.inr (.inr (0, 60))), some (.inl p0), some (.inl p1), some (.inl x0.1), some (.inl (-1)), some (.inl 0), none] [] x0.2.2) : zR)) (zev d) :=
  (zev_m (T := zT_213) rfl rfl rfl).trans ((zrun_eq (zev d) zT_213 [20] 57 _ _ _ _).trans (by rfl))
theorem ez_213_20 (C : zC) (a1 : Int32) (a2 : Int32) (a3 : Int32) (a4 : Int32) (a5 : Int32) (d6 : Option zV) (σ : zM) : zrun C zT_213 20 [some (.inr (.inr (0, 60))), some (.inl a1), some (.inl a2), some (.inl a3), some (.inl a4), some (.inl a5), d6] [] σ = if a5 < (σ.1 0 61 0) then (if a3 < 0 then (if a4 < 0 then (some (2, 0, σ)) else (some (a4, 0, σ))) else ((C 157 [.inr (.inr (0, 60)), .inl a5] σ).bind fun x0 => if x0.1 = 0 then ((C 212 [.inr (.inr (0, 60)), .inl a1, .inl a2, .inl a3, .inl a5] x0.2.2).bind fun x1 => if a4 < 0 then (zrun C zT_213 20 [some (.inr (.inr (0, 60))), some (.inl a1), some (.inl a2), some (.inl a3), some (.inl x1.1), some (.inl (a5 + 1)), some (.inl x1.1)] [] x1.2.2) else ((C 211 [.inl a1, .inl x1.1] x1.2.2).bind fun x2 => (C 211 [.inl a1, .inl a4] x2.2.2).bind fun x3 => if x3.1 < x2.1 then (zrun C zT_213 20 [some (.inr (.inr (0, 60))), some (.inl a1), some (.inl a2), some (.inl a3), some (.inl x1.1), some (.inl (a5 + 1)), some (.inl x1.1)] [] x3.2.2) else (zrun C zT_213 20 [some (.inr (.inr (0, 60))), some (.inl a1), some (.inl a2), some (.inl a3), some (.inl a4), some (.inl (a5 + 1)), some (.inl x1.1)] [] x3.2.2))) else (zrun C zT_213 20 [some (.inr (.inr (0, 60))), some (.inl a1), some (.inl a2), some (.inl a3), some (.inl a4), some (.inl (a5 + 1)), none] [] x0.2.2))) else (if a4 < 0 then (some (2, 0, σ)) else (some (a4, 0, σ))) :=
  (zrun_eq C zT_213 [20] 57 _ _ _ _).trans (by rfl)

/-- X12_isGame (II)Z -/
theorem ez_214 (d : Nat) (p0 : Int32) (p1 : Int32) (σ : zM) : zev (d + 1) 214 [.inl p0, .inl p1] σ = (fun C : zC => ((C 149 [.inr (.inl (Int32.toInt64 p0)), .inr (.inl 0), .inr (.inl 1)] σ).bind fun x0 => if x0.1 = 0 then (zgd (zret 3 0) (some (0, 0, x0.2.2))) else ((C 149 [.inr (.inl (Int32.toInt64 p1)), .inr (.inl 1), .inr (.inl 4)] x0.2.2).bind fun x1 => if x1.1 = 0 then (zgd (zret 3 0) (some (0, 0, x1.2.2))) else (zgd (zret 3 1) (some (1, 0, x1.2.2)))) : zR)) (zev d) :=
  (zev_m (T := zT_214) rfl rfl rfl).trans ((zrun_eq (zev d) zT_214 [] 21 _ _ _ _).trans (by rfl))

/-- X12_game (II)I -/
theorem ez_215 (d : Nat) (p0 : Int32) (p1 : Int32) (σ : zM) : zev (d + 1) 215 [.inr (.inr (0, 60)), .inl p0, .inl p1] σ = (fun C : zC => ((C 214 [.inl p0, .inl p1] σ).bind fun x0 => if x0.1 = 0 then (some ((-1), 0, x0.2.2)) else ((C 166 [.inr (.inr (0, 60))] x0.2.2).bind fun x1 => (C 213 [.inr (.inr (0, 60)), .inl p0, .inl p1] x1.2.2).bind fun x2 => some (x2.1, 0, x2.2.2)) : zR)) (zev d) :=
  (zev_m (T := zT_215) rfl rfl rfl).trans ((zrun_eq (zev d) zT_215 [] 18 _ _ _ _).trans (by rfl))
