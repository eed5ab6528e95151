set_option maxRecDepth 20000
set_option linter.unusedVariables false
theorem ez_84 (d : Nat) (p0 : Int32) (p1 : Int32) (p2 : Int32) (p3 : Int32) (σ : zM) : zev (d + 1) 84 [.inr (.inr (0, 30)), .inl p0, .inl p1, .inl p2, .inl p3] σ = (fun C : zC => (if p1 = (-1) then (zrun C zT_84 10 [some (.inr (.inr (0, 30))), some (.inl p0), some (.inl p1), some (.inl p2), some (.inl p3), none] [.inl 1] σ) else (zrun C zT_84 10 [some (.inr (.inr (0, 30))), some (.inl p0), some (.inl p1), some (.inl p2), some (.inl p3), none] [.inl 0] σ) : zR)) (zev d) :=
  (zev_m (T := zT_84) rfl rfl rfl).trans ((zrun_eq (zev d) zT_84 [10, 40] 68 _ _ _ _).trans (by rfl))
theorem ez_84_10 (C : zC) (a1 : Int32) (a2 : Int32) (a3 : Int32) (a4 : Int32) (d5 : Option zV) (s0 : Int32) (σ : zM) : zrun C zT_84 10 [some (.inr (.inr (0, 30))), some (.inl a1), some (.inl a2), some (.inl a3), some (.inl a4), d5] [.inl s0] σ = (C 142 [.inl a1] σ).bind fun x0 => if x0.1 = 0 then (some ((-1), 0, x0.2.2)) else (if s0 = 0 then ((C 13 [.inr (.inr (0, 1)), .inl a2] x0.2.2).bind fun x1 => if x1.1 = 0 then (some ((-1), 0, x1.2.2)) else (zrun C zT_84 40 [some (.inr (.inr (0, 30))), some (.inl a1), some (.inl a2), some (.inl a3), some (.inl a4), some (.inl s0)] [] x1.2.2)) else (zrun C zT_84 40 [some (.inr (.inr (0, 30))), some (.inl a1), some (.inl a2), some (.inl a3), some (.inl a4), some (.inl s0)] [] x0.2.2)) :=
  (zrun_eq C zT_84 [10, 40] 68 _ _ _ _).trans (by rfl)
theorem ez_84_40 (C : zC) (a1 : Int32) (a2 : Int32) (a3 : Int32) (a4 : Int32) (a5 : Int32) (σ : zM) : zrun C zT_84 40 [some (.inr (.inr (0, 30))), some (.inl a1), some (.inl a2), some (.inl a3), some (.inl a4), some (.inl a5)] [] σ = (C 141 [.inl a3, .inl 1, .inl 9] σ).bind fun x0 => if x0.1 = 0 then (some ((-1), 0, x0.2.2)) else ((C 141 [.inl a4, .inl 1, .inl 999] x0.2.2).bind fun x1 => if x1.1 = 0 then (some ((-1), 0, x1.2.2)) else (if (x1.2.2.1 0 1 0) < 9 then (if a5 = 0 then ((C 14 [.inr (.inr (0, 1)), .inl a2] x1.2.2).bind fun x2 => if x2.1 = 0 then (some ((-4), 0, x2.2.2)) else (if a5 = 0 then ((C 12 [.inr (.inr (0, 1)), .inl a1, .inl a2, .inl a3, .inl a4] x2.2.2).bind fun x3 => some (x3.1, 0, x3.2.2)) else ((C 12 [.inr (.inr (0, 1)), .inl a1, .inl (-9), .inl a3, .inl a4] x2.2.2).bind fun x4 => some (x4.1, 0, x4.2.2)))) else (if a5 = 0 then ((C 12 [.inr (.inr (0, 1)), .inl a1, .inl a2, .inl a3, .inl a4] x1.2.2).bind fun x5 => some (x5.1, 0, x5.2.2)) else ((C 12 [.inr (.inr (0, 1)), .inl a1, .inl (-9), .inl a3, .inl a4] x1.2.2).bind fun x6 => some (x6.1, 0, x6.2.2)))) else (some ((-2), 0, x1.2.2)))) :=
  (zrun_eq C zT_84 [10, 40] 68 _ _ _ _).trans (by rfl)

theorem ez_85 (d : Nat) (p0 : Int32) (p1 : Int32) (σ : zM) : zev (d + 1) 85 [.inr (.inr (0, 30)), .inl p0, .inl p1] σ = (fun C : zC => ((C 13 [.inr (.inr (0, 1)), .inl p0] σ).bind fun x0 => if x0.1 = 0 then (some ((-1), 0, x0.2.2)) else (if p1 = 0 then (zgd (zin p0 9) (some ((x0.2.2.1 0 2 (Int32.toNatClampNeg p0)), 0, x0.2.2))) else if p1 = 1 then (zgd (zin p0 9) (some ((x0.2.2.1 0 3 (Int32.toNatClampNeg p0)), 0, x0.2.2))) else if p1 = 2 then (zgd (zin p0 9) (some ((x0.2.2.1 0 4 (Int32.toNatClampNeg p0)), 0, x0.2.2))) else if p1 = 3 then (zgd (zin p0 9) (some ((x0.2.2.1 0 5 (Int32.toNatClampNeg p0)), 0, x0.2.2))) else if p1 = 4 then ((C 16 [.inr (.inr (0, 1)), .inl p0] x0.2.2).bind fun x1 => some (x1.1, 0, x1.2.2)) else if p1 = 5 then ((C 26 [.inr (.inr (0, 0)), .inl p0] x0.2.2).bind fun x2 => some (x2.1, 0, x2.2.2)) else if p1 = 6 then ((C 30 [.inr (.inr (0, 0)), .inl p0] x0.2.2).bind fun x3 => some (x3.1, 0, x3.2.2)) else (some ((-1), 0, x0.2.2))) : zR)) (zev d) :=
  (zev_m (T := zT_85) rfl rfl rfl).trans ((zrun_eq (zev d) zT_85 [] 61 _ _ _ _).trans (by rfl))

theorem ez_86 (d : Nat) (p0 : Int32) (p1 : Int32) (p2 : Int32) (σ : zM) : zev (d + 1) 86 [.inr (.inr (0, 30)), .inl p0, .inl p1, .inl p2] σ = (fun C : zC => ((C 13 [.inr (.inr (0, 1)), .inl p0] σ).bind fun x0 => if x0.1 = 0 then (some ((-1), 0, x0.2.2)) else (if p1 = 2 then ((C 141 [.inl p2, .inl 1, .inl 9] x0.2.2).bind fun x1 => if x1.1 = 0 then (zrun C zT_86 47 [some (.inr (.inr (0, 30))), some (.inl p0), some (.inl p1), some (.inl p2)] [] x1.2.2) else ((C 147 [.inr (.inr (0, 4)), .inl p0, .inl p2] x1.2.2).bind fun x2 => some (x2.1, 0, x2.2.2))) else (zrun C zT_86 47 [some (.inr (.inr (0, 30))), some (.inl p0), some (.inl p1), some (.inl p2)] [] x0.2.2)) : zR)) (zev d) :=
  (zev_m (T := zT_86) rfl rfl rfl).trans ((zrun_eq (zev d) zT_86 [47] 47 _ _ _ _).trans (by rfl))
theorem ez_86_47 (C : zC) (a1 : Int32) (a2 : Int32) (a3 : Int32) (σ : zM) : zrun C zT_86 47 [some (.inr (.inr (0, 30))), some (.inl a1), some (.inl a2), some (.inl a3)] [] σ = if a2 = 3 then ((C 141 [.inl a3, .inl 1, .inl 999] σ).bind fun x0 => if x0.1 = 0 then (some ((-1), 0, x0.2.2)) else ((C 147 [.inr (.inr (0, 5)), .inl a1, .inl a3] x0.2.2).bind fun x1 => some (x1.1, 0, x1.2.2))) else (some ((-1), 0, σ)) :=
  (zrun_eq C zT_86 [47] 47 _ _ _ _).trans (by rfl)

theorem ez_87 (d : Nat) (p0 : Int32) (p1 : Int32) (σ : zM) : zev (d + 1) 87 [.inr (.inr (0, 30)), .inl p0, .inl p1] σ = (fun C : zC => ((C 13 [.inr (.inr (0, 1)), .inl p0] σ).bind fun x0 => if x0.1 = 0 then (some ((-1), 0, x0.2.2)) else ((C 142 [.inl p1] x0.2.2).bind fun x1 => if x1.1 = 0 then (some ((-1), 0, x1.2.2)) else ((C 147 [.inr (.inr (0, 2)), .inl p0, .inl p1] x1.2.2).bind fun x2 => some (x2.1, 0, x2.2.2))) : zR)) (zev d) :=
  (zev_m (T := zT_87) rfl rfl rfl).trans ((zrun_eq (zev d) zT_87 [] 24 _ _ _ _).trans (by rfl))

theorem ez_88 (d : Nat) (p0 : Int32) (p1 : Int32) (σ : zM) : zev (d + 1) 88 [.inr (.inr (0, 30)), .inl p0, .inl p1] σ = (fun C : zC => ((C 141 [.inl p0, .inl 0, .inl 1] σ).bind fun x0 => if x0.1 = 0 then (some ((-1), 0, x0.2.2)) else ((C 141 [.inl p1, .inl 0, .inl 9] x0.2.2).bind fun x1 => if x1.1 = 0 then (some ((-1), 0, x1.2.2)) else (if p0 = 0 then (zrun C zT_88 48 [some (.inr (.inr (0, 30))), some (.inl p0), some (.inl p1), none] [.inl (x1.2.2.1 0 1 7)] x1.2.2) else (zrun C zT_88 48 [some (.inr (.inr (0, 30))), some (.inl p0), some (.inl p1), none] [.inl (x1.2.2.1 0 1 8)] x1.2.2))) : zR)) (zev d) :=
  (zev_m (T := zT_88) rfl rfl rfl).trans ((zrun_eq (zev d) zT_88 [48] 44 _ _ _ _).trans (by rfl))
theorem ez_88_48 (C : zC) (a1 : Int32) (a2 : Int32) (d3 : Option zV) (s0 : Int32) (σ : zM) : zrun C zT_88 48 [some (.inr (.inr (0, 30))), some (.inl a1), some (.inl a2), d3] [.inl s0] σ = if a1 = 0 then (some (s0, 0, zwI σ 0 1 7 a2)) else (some (s0, 0, zwI σ 0 1 8 a2)) :=
  (zrun_eq C zT_88 [48] 44 _ _ _ _).trans (by rfl)

theorem ez_89 (d : Nat) (p0 : Int64) (p1 : Int32) (σ : zM) : zev (d + 1) 89 [.inr (.inr (0, 30)), .inr (.inl p0), .inl p1] σ = (fun C : zC => ((C 141 [.inl p1, .inl 1, .inl 8] σ).bind fun x0 => if x0.1 = 0 then (some ((-1), 0, x0.2.2)) else (if 200 < ((x0.2.2.1 0 31 0) + p1) then (some ((-2), 0, x0.2.2)) else ((C 75 [.inr (.inr (0, 31)), .inr (.inl p0), .inl p1] x0.2.2).bind fun x1 => some ((x1.2.2.1 0 31 0), 0, x1.2.2))) : zR)) (zev d) :=
  (zev_m (T := zT_89) rfl rfl rfl).trans ((zrun_eq (zev d) zT_89 [] 30 _ _ _ _).trans (by rfl))

theorem ez_90 (d : Nat)  (σ : zM) : zev (d + 1) 90 [.inr (.inr (0, 30))] σ = (fun C : zC => ((C 48 [.inr (.inr (0, 33)), .inr (.inr (0, 31))] σ).bind fun x0 => if x0.1 < 0 then ((C 63 [.inr (.inr (0, 7)), .inr (.inr (4, 7))] (zwI x0.2.2 0 31 0 0)).bind fun x1 => some ((x1.2.2.1 0 7 0), 0, x1.2.2)) else (some (((-100) - x0.1), 0, zwI x0.2.2 0 31 0 0)) : zR)) (zev d) :=
  (zev_m (T := zT_90) rfl rfl rfl).trans ((zrun_eq (zev d) zT_90 [] 35 _ _ _ _).trans (by rfl))

theorem ez_91 (d : Nat) (p0 : Int32) (p1 : Int32) (σ : zM) : zev (d + 1) 91 [.inr (.inr (0, 30)), .inl p0, .inl p1] σ = (fun C : zC => ((C 141 [.inl p0, .inl 1, .inl 200] σ).bind fun x0 => if x0.1 = 0 then (some ((-1), 0, x0.2.2)) else ((C 143 [.inl p1] x0.2.2).bind fun x1 => if x1.1 = 0 then (some ((-1), 0, x1.2.2)) else (if (x1.2.2.1 0 15 0) < 8 then ((C 36 [.inr (.inr (0, 15)), .inl p0, .inl p1] x1.2.2).bind fun x2 => some (x2.1, 0, x2.2.2)) else (some ((-2), 0, x1.2.2)))) : zR)) (zev d) :=
  (zev_m (T := zT_91) rfl rfl rfl).trans ((zrun_eq (zev d) zT_91 [] 30 _ _ _ _).trans (by rfl))

theorem ez_92 (d : Nat) (p0 : Int32) (p1 : Int32) (σ : zM) : zev (d + 1) 92 [.inr (.inr (0, 30)), .inl p0, .inl p1] σ = (fun C : zC => ((C 37 [.inr (.inr (0, 15)), .inl p0] σ).bind fun x0 => if x0.1 = 0 then (some ((-1), 0, x0.2.2)) else (if p1 = 0 then (zgd (zin p0 8) (some ((x0.2.2.1 0 16 (Int32.toNatClampNeg p0)), 0, x0.2.2))) else if p1 = 1 then (zgd (zin p0 8) (some ((x0.2.2.1 0 17 (Int32.toNatClampNeg p0)), 0, x0.2.2))) else if p1 = 2 then (zgd (zin p0 8) (some ((x0.2.2.1 0 18 (Int32.toNatClampNeg p0)), 0, x0.2.2))) else (some ((-1), 0, x0.2.2))) : zR)) (zev d) :=
  (zev_m (T := zT_92) rfl rfl rfl).trans ((zrun_eq (zev d) zT_92 [] 38 _ _ _ _).trans (by rfl))

theorem ez_93 (d : Nat) (p0 : Int32) (p1 : Int32) (σ : zM) : zev (d + 1) 93 [.inr (.inr (0, 30)), .inl p0, .inl p1] σ = (fun C : zC => ((C 37 [.inr (.inr (0, 15)), .inl p0] σ).bind fun x0 => if x0.1 = 0 then (some ((-1), 0, x0.2.2)) else ((C 13 [.inr (.inr (0, 1)), .inl p1] x0.2.2).bind fun x1 => if x1.1 = 0 then (some ((-1), 0, x1.2.2)) else ((C 14 [.inr (.inr (0, 1)), .inl p1] x1.2.2).bind fun x2 => if x2.1 = 0 then (some ((-4), 0, x2.2.2)) else ((C 147 [.inr (.inr (0, 18)), .inl p0, .inl p1] x2.2.2).bind fun x3 => some (x3.1, 0, x3.2.2)))) : zR)) (zev d) :=
  (zev_m (T := zT_93) rfl rfl rfl).trans ((zrun_eq (zev d) zT_93 [] 35 _ _ _ _).trans (by rfl))

theorem ez_94 (d : Nat) (p0 : Int32) (σ : zM) : zev (d + 1) 94 [.inr (.inr (0, 30)), .inl p0] σ = (fun C : zC => ((C 37 [.inr (.inr (0, 15)), .inl p0] σ).bind fun x0 => if x0.1 = 0 then (some ((-1), 0, x0.2.2)) else ((C 147 [.inr (.inr (0, 18)), .inl p0, .inl (-9)] x0.2.2).bind fun x1 => some (x1.1, 0, x1.2.2)) : zR)) (zev d) :=
  (zev_m (T := zT_94) rfl rfl rfl).trans ((zrun_eq (zev d) zT_94 [] 21 _ _ _ _).trans (by rfl))

theorem ez_95 (d : Nat)  (σ : zM) : zev (d + 1) 95 [.inr (.inr (0, 30))] σ = (fun C : zC => ((C 27 [.inr (.inr (0, 0))] σ).bind fun x0 => (C 29 [.inr (.inr (0, 0))] x0.2.2).bind fun x1 => some (x1.1, 0, x1.2.2) : zR)) (zev d) :=
  (zev_m (T := zT_95) rfl rfl rfl).trans ((zrun_eq (zev d) zT_95 [] 12 _ _ _ _).trans (by rfl))

theorem ez_96 (d : Nat)  (σ : zM) : zev (d + 1) 96 [.inr (.inr (0, 30))] σ = (fun C : zC => ((C 27 [.inr (.inr (0, 0))] σ).bind fun x0 => (C 31 [.inr (.inr (0, 0))] x0.2.2).bind fun x1 => if x1.1 = (-9) then (some ((-3), 0, x1.2.2)) else (some (x1.1, 0, x1.2.2)) : zR)) (zev d) :=
  (zev_m (T := zT_96) rfl rfl rfl).trans ((zrun_eq (zev d) zT_96 [] 19 _ _ _ _).trans (by rfl))

theorem ez_97 (d : Nat)  (σ : zM) : zev (d + 1) 97 [.inr (.inr (0, 30))] σ = (fun C : zC => ((C 33 [.inr (.inr (0, 0))] σ).bind fun x0 => some (x0.1, 0, x0.2.2) : zR)) (zev d) :=
  (zev_m (T := zT_97) rfl rfl rfl).trans ((zrun_eq (zev d) zT_97 [] 9 _ _ _ _).trans (by rfl))

theorem ez_98 (d : Nat)  (σ : zM) : zev (d + 1) 98 [.inr (.inr (0, 30))] σ = (fun C : zC => ((C 25 [.inr (.inr (1, 0)), .inr (.inr (0, 0))] σ).bind fun x0 => (C 33 [.inr (.inr (1, 0))] x0.2.2).bind fun x1 => some (x1.1, 0, x1.2.2) : zR)) (zev d) :=
  (zev_m (T := zT_98) rfl rfl rfl).trans ((zrun_eq (zev d) zT_98 [] 14 _ _ _ _).trans (by rfl))

theorem ez_99 (d : Nat) (p0 : Int32) (σ : zM) : zev (d + 1) 99 [.inr (.inr (0, 30)), .inl p0] σ = (fun C : zC => ((C 143 [.inl p0] σ).bind fun x0 => if x0.1 = 0 then (some ((-1), 0, x0.2.2)) else ((C 25 [.inr (.inr (1, 0)), .inr (.inr (0, 0))] x0.2.2).bind fun x1 => (C 33 [.inr (.inr (1, 0))] x1.2.2).bind fun x2 => (C 38 [.inr (.inr (1, 15)), .inl p0] x2.2.2).bind fun x3 => some (x3.1, 0, x3.2.2)) : zR)) (zev d) :=
  (zev_m (T := zT_99) rfl rfl rfl).trans ((zrun_eq (zev d) zT_99 [] 25 _ _ _ _).trans (by rfl))

theorem ez_100 (d : Nat)  (σ : zM) : zev (d + 1) 100 [.inr (.inr (0, 30))] σ = (fun C : zC => ((C 25 [.inr (.inr (1, 0)), .inr (.inr (0, 0))] σ).bind fun x0 => (C 33 [.inr (.inr (1, 0))] x0.2.2).bind fun x1 => (C 38 [.inr (.inr (1, 15)), .inl 0] x1.2.2).bind fun x2 => (C 38 [.inr (.inr (1, 15)), .inl 1] x2.2.2).bind fun x3 => if (x2.1 - x3.1) = 0 then (some (2, 0, x3.2.2)) else (if 0 < (x2.1 - x3.1) then (some (0, 0, x3.2.2)) else (some (1, 0, x3.2.2))) : zR)) (zev d) :=
  (zev_m (T := zT_100) rfl rfl rfl).trans ((zrun_eq (zev d) zT_100 [] 36 _ _ _ _).trans (by rfl))

theorem ez_101 (d : Nat) (p0 : Int32) (σ : zM) : zev (d + 1) 101 [.inr (.inr (0, 30)), .inl p0] σ = (fun C : zC => ((C 13 [.inr (.inr (0, 1)), .inl p0] σ).bind fun x0 => if x0.1 = 0 then (some ((-1), 0, x0.2.2)) else ((C 14 [.inr (.inr (0, 1)), .inl p0] x0.2.2).bind fun x1 => if x1.1 = 0 then (some ((-4), 0, x1.2.2)) else ((C 27 [.inr (.inr (0, 0))] x1.2.2).bind fun x2 => (C 32 [.inr (.inr (0, 0)), .inl p0] x2.2.2).bind fun x3 => some (x3.1, 0, x3.2.2))) : zR)) (zev d) :=
  (zev_m (T := zT_101) rfl rfl rfl).trans ((zrun_eq (zev d) zT_101 [] 29 _ _ _ _).trans (by rfl))

theorem ez_102 (d : Nat) (p0 : Int32) (σ : zM) : zev (d + 1) 102 [.inr (.inr (0, 30)), .inl p0] σ = (fun C : zC => ((C 37 [.inr (.inr (0, 15)), .inl p0] σ).bind fun x0 => if x0.1 = 0 then (some ((-1), 0, x0.2.2)) else ((C 107 [.inr (.inr (0, 30)), .inl p0] x0.2.2).bind fun x1 => zrun C zT_102 29 [some (.inr (.inr (0, 30))), some (.inl p0), some (.inl (-1)), some (.inl (-3)), some (.inl 0)] [] x1.2.2) : zR)) (zev d) :=
  (zev_m (T := zT_102) rfl rfl rfl).trans ((zrun_eq (zev d) zT_102 [29] 51 _ _ _ _).trans (by rfl))
theorem ez_102_29 (C : zC) (d1 : Option zV) (a2 : Int32) (a3 : Int32) (a4 : Int32) (σ : zM) : zrun C zT_102 29 [some (.inr (.inr (0, 30))), d1, some (.inl a2), some (.inl a3), some (.inl a4)] [] σ = if a4 < (σ.1 1 1 0) then ((C 14 [.inr (.inr (1, 1)), .inl a4] σ).bind fun x0 => if x0.1 = 0 then (zrun C zT_102 29 [some (.inr (.inr (0, 30))), none, some (.inl a2), some (.inl a3), some (.inl (a4 + 1))] [] x0.2.2) else ((C 32 [.inr (.inr (1, 0)), .inl a4] x0.2.2).bind fun x1 => if a2 < x1.1 then ((C 32 [.inr (.inr (1, 0)), .inl a4] x1.2.2).bind fun x2 => zrun C zT_102 29 [some (.inr (.inr (0, 30))), none, some (.inl x2.1), some (.inl a4), some (.inl (a4 + 1))] [] x2.2.2) else (zrun C zT_102 29 [some (.inr (.inr (0, 30))), none, some (.inl a2), some (.inl a3), some (.inl (a4 + 1))] [] x1.2.2))) else (some (a3, 0, σ)) :=
  (zrun_eq C zT_102 [29] 51 _ _ _ _).trans (by rfl)

theorem ez_103 (d : Nat) (p0 : Int32) (σ : zM) : zev (d + 1) 103 [.inr (.inr (0, 30)), .inl p0] σ = (fun C : zC => ((C 37 [.inr (.inr (0, 15)), .inl p0] σ).bind fun x0 => if x0.1 = 0 then (some ((-1), 0, x0.2.2)) else ((C 107 [.inr (.inr (0, 30)), .inl p0] x0.2.2).bind fun x1 => zgd (zin p0 8) (zrun C zT_103 39 [some (.inr (.inr (0, 30))), some (.inl p0), some (.inl (x1.2.2.1 0 16 (Int32.toNatClampNeg p0))), some (.inl 0), some (.inl 0)] [] x1.2.2)) : zR)) (zev d) :=
  (zev_m (T := zT_103) rfl rfl rfl).trans ((zrun_eq (zev d) zT_103 [39] 73 _ _ _ _).trans (by rfl))
theorem ez_103_39 (C : zC) (a1 : Int32) (a2 : Int32) (a3 : Int32) (a4 : Int32) (σ : zM) : zrun C zT_103 39 [some (.inr (.inr (0, 30))), some (.inl a1), some (.inl a2), some (.inl a3), some (.inl a4)] [] σ = if a4 < (σ.1 1 1 0) then (zgd (zin a1 8) (if a4 = (σ.1 0 18 (Int32.toNatClampNeg a1)) then (zrun C zT_103 39 [some (.inr (.inr (0, 30))), some (.inl a1), some (.inl a2), some (.inl a3), some (.inl (a4 + 1))] [] σ) else ((C 14 [.inr (.inr (1, 1)), .inl a4] σ).bind fun x0 => if x0.1 = 0 then (zrun C zT_103 39 [some (.inr (.inr (0, 30))), some (.inl a1), some (.inl a2), some (.inl a3), some (.inl (a4 + 1))] [] x0.2.2) else ((C 28 [.inr (.inr (1, 0)), .inl a4, .inl a2] x0.2.2).bind fun x1 => (C 29 [.inr (.inr (1, 0))] x1.2.2).bind fun x2 => if x2.1 = 0 then ((C 28 [.inr (.inr (1, 0)), .inl a4, .inl (-a2)] x2.2.2).bind fun x3 => zrun C zT_103 39 [some (.inr (.inr (0, 30))), some (.inl a1), some (.inl a2), some (.inl (a3 ||| (1 <<< (a4 &&& 31)))), some (.inl (a4 + 1))] [] x3.2.2) else ((C 28 [.inr (.inr (1, 0)), .inl a4, .inl (-a2)] x2.2.2).bind fun x4 => zrun C zT_103 39 [some (.inr (.inr (0, 30))), some (.inl a1), some (.inl a2), some (.inl a3), some (.inl (a4 + 1))] [] x4.2.2))))) else (some (a3, 0, σ)) :=
  (zrun_eq C zT_103 [39] 73 _ _ _ _).trans (by rfl)

theorem ez_104 (d : Nat)  (σ : zM) : zev (d + 1) 104 [.inr (.inr (0, 30))] σ = (fun C : zC => ((C 25 [.inr (.inr (1, 0)), .inr (.inr (0, 0))] σ).bind fun x0 => (C 33 [.inr (.inr (1, 0))] x0.2.2).bind fun x1 => (C 38 [.inr (.inr (1, 15)), .inl 0] x1.2.2).bind fun x2 => (C 38 [.inr (.inr (1, 15)), .inl 1] x2.2.2).bind fun x3 => zrun C zT_104 48 [some (.inr (.inr (0, 30))), some (.inl (x2.1 + x3.1)), some (.inl (-3)), some (.inl 0), none] [] x3.2.2 : zR)) (zev d) :=
  (zev_m (T := zT_104) rfl rfl rfl).trans ((zrun_eq (zev d) zT_104 [48] 51 _ _ _ _).trans (by rfl))
theorem ez_104_48 (C : zC) (a1 : Int32) (a2 : Int32) (a3 : Int32) (d4 : Option zV) (σ : zM) : zrun C zT_104 48 [some (.inr (.inr (0, 30))), some (.inl a1), some (.inl a2), some (.inl a3), d4] [] σ = if a3 < (σ.1 0 1 0) then ((C 108 [.inr (.inr (0, 30)), .inl a3] σ).bind fun x0 => if a1 < x0.1 then (zrun C zT_104 48 [some (.inr (.inr (0, 30))), some (.inl x0.1), some (.inl a3), some (.inl (a3 + 1)), some (.inl x0.1)] [] x0.2.2) else (zrun C zT_104 48 [some (.inr (.inr (0, 30))), some (.inl a1), some (.inl a2), some (.inl (a3 + 1)), some (.inl x0.1)] [] x0.2.2)) else (some (a2, 0, σ)) :=
  (zrun_eq C zT_104 [48] 51 _ _ _ _).trans (by rfl)

theorem ez_105 (d : Nat)  (σ : zM) : zev (d + 1) 105 [.inr (.inr (0, 30))] σ = (fun C : zC => ((C 109 [.inr (.inr (0, 30))] σ).bind fun x0 => zrun C zT_105 7 [some (.inr (.inr (0, 30))), some (.inl x0.1), some (.inl 0)] [] x0.2.2 : zR)) (zev d) :=
  (zev_m (T := zT_105) rfl rfl rfl).trans ((zrun_eq (zev d) zT_105 [7] 23 _ _ _ _).trans (by rfl))
theorem ez_105_7 (C : zC) (d0 : Option zV) (a1 : Int32) (a2 : Int32) (σ : zM) : zrun C zT_105 7 [d0, some (.inl a1), some (.inl a2)] [] σ = if 9 < a2 then (some ((-3), 0, σ)) else ((C 145 [.inl a1, .inl a2] σ).bind fun x0 => if x0.1 = 0 then (zrun C zT_105 7 [none, some (.inl a1), some (.inl (a2 + 1))] [] x0.2.2) else (some (a2, 0, x0.2.2))) :=
  (zrun_eq C zT_105 [7] 23 _ _ _ _).trans (by rfl)

theorem ez_106 (d : Nat)  (σ : zM) : zev (d + 1) 106 [.inr (.inr (0, 30))] σ = (fun C : zC => ((C 25 [.inr (.inr (1, 0)), .inr (.inr (0, 0))] σ).bind fun x0 => zrun C zT_106 13 [some (.inr (.inr (0, 30))), some (.inl 0)] [] x0.2.2 : zR)) (zev d) :=
  (zev_m (T := zT_106) rfl rfl rfl).trans ((zrun_eq (zev d) zT_106 [13] 33 _ _ _ _).trans (by rfl))
theorem ez_106_13 (C : zC) (a1 : Int32) (σ : zM) : zrun C zT_106 13 [some (.inr (.inr (0, 30))), some (.inl a1)] [] σ = if 9 < a1 then (some ((-3), 0, σ)) else ((C 27 [.inr (.inr (1, 0))] (zwI σ 1 1 7 a1)).bind fun x0 => (C 29 [.inr (.inr (1, 0))] x0.2.2).bind fun x1 => if x1.1 = 0 then (some (a1, 0, x1.2.2)) else (zrun C zT_106 13 [some (.inr (.inr (0, 30))), some (.inl (a1 + 1))] [] x1.2.2)) :=
  (zrun_eq C zT_106 [13] 33 _ _ _ _).trans (by rfl)

theorem ez_107 (d : Nat) (p0 : Int32) (σ : zM) : zev (d + 1) 107 [.inr (.inr (0, 30)), .inl p0] σ = (fun C : zC => ((C 25 [.inr (.inr (1, 0)), .inr (.inr (0, 0))] σ).bind fun x0 => zgd (zin p0 8) ((C 27 [.inr (.inr (1, 0))] (zwI x0.2.2 1 18 (Int32.toNatClampNeg p0) (-9))).bind fun x1 => some (0, 0, x1.2.2)) : zR)) (zev d) :=
  (zev_m (T := zT_107) rfl rfl rfl).trans ((zrun_eq (zev d) zT_107 [] 21 _ _ _ _).trans (by rfl))

theorem ez_108 (d : Nat) (p0 : Int32) (σ : zM) : zev (d + 1) 108 [.inr (.inr (0, 30)), .inl p0] σ = (fun C : zC => ((C 25 [.inr (.inr (1, 0)), .inr (.inr (0, 0))] σ).bind fun x0 => zgd (zin p0 9) ((C 33 [.inr (.inr (1, 0))] (zwI x0.2.2 1 2 (Int32.toNatClampNeg p0) 4)).bind fun x1 => (C 38 [.inr (.inr (1, 15)), .inl 0] x1.2.2).bind fun x2 => (C 38 [.inr (.inr (1, 15)), .inl 1] x2.2.2).bind fun x3 => some ((x2.1 + x3.1), 0, x3.2.2)) : zR)) (zev d) :=
  (zev_m (T := zT_108) rfl rfl rfl).trans ((zrun_eq (zev d) zT_108 [] 33 _ _ _ _).trans (by rfl))

theorem ez_109 (d : Nat)  (σ : zM) : zev (d + 1) 109 [.inr (.inr (0, 30))] σ = (fun C : zC => ((C 25 [.inr (.inr (1, 0)), .inr (.inr (0, 0))] σ).bind fun x0 => zrun C zT_109 15 [some (.inr (.inr (0, 30))), some (.inl 0), some (.inl 0)] [] x0.2.2 : zR)) (zev d) :=
  (zev_m (T := zT_109) rfl rfl rfl).trans ((zrun_eq (zev d) zT_109 [15] 39 _ _ _ _).trans (by rfl))
theorem ez_109_15 (C : zC) (a1 : Int32) (a2 : Int32) (σ : zM) : zrun C zT_109 15 [some (.inr (.inr (0, 30))), some (.inl a1), some (.inl a2)] [] σ = if 9 < a2 then (some (a1, 0, σ)) else ((C 27 [.inr (.inr (1, 0))] (zwI σ 1 1 8 a2)).bind fun x0 => (C 29 [.inr (.inr (1, 0))] x0.2.2).bind fun x1 => if x1.1 = 0 then (zrun C zT_109 15 [some (.inr (.inr (0, 30))), some (.inl a1), some (.inl (a2 + 1))] [] x1.2.2) else (zrun C zT_109 15 [some (.inr (.inr (0, 30))), some (.inl (a1 ||| (1 <<< (a2 &&& 31)))), some (.inl (a2 + 1))] [] x1.2.2)) :=
  (zrun_eq C zT_109 [15] 39 _ _ _ _).trans (by rfl)

theorem ez_110 (d : Nat) (p0 : Int32) (p1 : Int32) (σ : zM) : zev (d + 1) 110 [.inr (.inr (0, 30)), .inl p0, .inl p1] σ = (fun C : zC => ((C 114 [.inr (.inr (0, 30)), .inl p0] σ).bind fun x0 => if x0.1 = 0 then (some ((-1), 0, x0.2.2)) else ((C 141 [.inl p1, .inl 0, .inl 3] x0.2.2).bind fun x1 => if x1.1 = 0 then (some ((-1), 0, x1.2.2)) else ((C 69 [.inr (.inr (0, 35)), .inr (.inr (0, 0)), .inl p0] x1.2.2).bind fun x2 => if x2.1 = 0 then (some ((-3), 0, x2.2.2)) else (if p1 < (x2.2.2.1 0 35 0) then (zgd (zin p1 4) (some ((x2.2.2.1 0 37 (Int32.toNatClampNeg p1)), 0, x2.2.2))) else (some ((-3), 0, x2.2.2))))) : zR)) (zev d) :=
  (zev_m (T := zT_110) rfl rfl rfl).trans ((zrun_eq (zev d) zT_110 [] 36 _ _ _ _).trans (by rfl))

theorem ez_111 (d : Nat) (p0 : Int32) (σ : zM) : zev (d + 1) 111 [.inr (.inr (0, 30)), .inl p0] σ = (fun C : zC => ((C 114 [.inr (.inr (0, 30)), .inl p0] σ).bind fun x0 => if x0.1 = 0 then (some ((-1), 0, x0.2.2)) else ((C 69 [.inr (.inr (0, 35)), .inr (.inr (0, 0)), .inl p0] x0.2.2).bind fun x1 => if x1.1 = 0 then (some ((-3), 0, x1.2.2)) else (zrun C zT_111 30 [some (.inr (.inr (0, 30))), some (.inl p0), some (.inl 0)] [] x1.2.2)) : zR)) (zev d) :=
  (zev_m (T := zT_111) rfl rfl rfl).trans ((zrun_eq (zev d) zT_111 [30] 48 _ _ _ _).trans (by rfl))
theorem ez_111_30 (C : zC) (d1 : Option zV) (a2 : Int32) (σ : zM) : zrun C zT_111 30 [some (.inr (.inr (0, 30))), d1, some (.inl a2)] [] σ = if a2 < (σ.1 0 35 0) then (zgd (zin a2 4) (zgd (zin a2 4) (zgd (zin (σ.1 0 36 (Int32.toNatClampNeg a2)) 8) (zrun C zT_111 30 [some (.inr (.inr (0, 30))), none, some (.inl (a2 + 1))] [] (zwI σ 0 18 (Int32.toNatClampNeg (σ.1 0 36 (Int32.toNatClampNeg a2))) (σ.1 0 37 (Int32.toNatClampNeg a2))))))) else (some ((σ.1 0 35 0), 0, σ)) :=
  (zrun_eq C zT_111 [30] 48 _ _ _ _).trans (by rfl)

theorem ez_112 (d : Nat) (p0 : Int32) (p1 : Int32) (σ : zM) : zev (d + 1) 112 [.inr (.inr (0, 30)), .inl p0, .inl p1] σ = (fun C : zC => ((C 143 [.inl p0] σ).bind fun x0 => if x0.1 = 0 then (some ((-1), 0, x0.2.2)) else ((C 141 [.inl p1, .inl 1, .inl 4] x0.2.2).bind fun x1 => if x1.1 = 0 then (some ((-1), 0, x1.2.2)) else ((C 71 [.inr (.inr (0, 35)), .inr (.inr (0, 0)), .inl p0, .inl p1] x1.2.2).bind fun x2 => some (x2.1, 0, x2.2.2))) : zR)) (zev d) :=
  (zev_m (T := zT_112) rfl rfl rfl).trans ((zrun_eq (zev d) zT_112 [] 23 _ _ _ _).trans (by rfl))

theorem ez_113 (d : Nat) (p0 : Int32) (p1 : Int32) (σ : zM) : zev (d + 1) 113 [.inr (.inr (0, 30)), .inl p0, .inl p1] σ = (fun C : zC => ((C 143 [.inl p0] σ).bind fun x0 => if x0.1 = 0 then (some ((-1), 0, x0.2.2)) else ((C 141 [.inl p1, .inl 1, .inl 4] x0.2.2).bind fun x1 => if x1.1 = 0 then (some ((-1), 0, x1.2.2)) else ((C 72 [.inr (.inr (0, 35)), .inr (.inr (0, 0)), .inl p0, .inl p1] x1.2.2).bind fun x2 => some (x2.1, 0, x2.2.2))) : zR)) (zev d) :=
  (zev_m (T := zT_113) rfl rfl rfl).trans ((zrun_eq (zev d) zT_113 [] 23 _ _ _ _).trans (by rfl))

theorem ez_114 (d : Nat) (p0 : Int32) (σ : zM) : zev (d + 1) 114 [.inr (.inr (0, 30)), .inl p0] σ = (fun C : zC => (if (Int32.toUInt32 p0 >>> (Int32.toUInt32 (σ.1 0 15 0) &&& Int32.toUInt32 31)).toInt32 = 0 then ((C 271 [.inl p0] σ).bind fun x0 => if 4 < x0.1 then (zgd (zret 3 0) (some (0, 0, x0.2.2))) else (zgd (zret 3 1) (some (1, 0, x0.2.2)))) else (zgd (zret 3 0) (some (0, 0, σ))) : zR)) (zev d) :=
  (zev_m (T := zT_114) rfl rfl rfl).trans ((zrun_eq (zev d) zT_114 [] 20 _ _ _ _).trans (by rfl))

theorem ez_115 (d : Nat) (p0 : Int32) (p1 : Int32) (σ : zM) : zev (d + 1) 115 [.inr (.inr (0, 30)), .inl p0, .inl p1] σ = (fun C : zC => ((C 13 [.inr (.inr (0, 1)), .inl p0] σ).bind fun x0 => if x0.1 = 0 then (some ((-1), 0, x0.2.2)) else ((C 141 [.inl p1, .inl 0, .inl 1] x0.2.2).bind fun x1 => if x1.1 = 0 then (some ((-1), 0, x1.2.2)) else (if (x1.2.2.1 0 19 0) < 6 then ((C 41 [.inr (.inr (0, 19)), .inl p0, .inl p1] x1.2.2).bind fun x2 => some (x2.1, 0, x2.2.2)) else (some ((-2), 0, x1.2.2)))) : zR)) (zev d) :=
  (zev_m (T := zT_115) rfl rfl rfl).trans ((zrun_eq (zev d) zT_115 [] 33 _ _ _ _).trans (by rfl))

theorem ez_116 (d : Nat)  (σ : zM) : zev (d + 1) 116 [.inr (.inr (0, 30))] σ = (fun C : zC => (some ((σ.1 0 19 0), 0, zwI σ 0 19 0 0) : zR)) (zev d) :=
  (zev_m (T := zT_116) rfl rfl rfl).trans ((zrun_eq (zev d) zT_116 [] 17 _ _ _ _).trans (by rfl))

theorem ez_117 (d : Nat) (p0 : Int32) (σ : zM) : zev (d + 1) 117 [.inr (.inr (0, 30)), .inl p0] σ = (fun C : zC => ((C 141 [.inl p0, .inl 0, .inl 2] σ).bind fun x0 => if x0.1 = 0 then (some ((-1), 0, x0.2.2)) else ((C 27 [.inr (.inr (0, 0))] x0.2.2).bind fun x1 => (C 42 [.inr (.inr (0, 19)), .inr (.inr (0, 0)), .inl (-9)] x1.2.2).bind fun x2 => if p0 = 0 then ((C 44 [.inr (.inr (0, 19))] x2.2.2).bind fun x3 => some (x3.1, 0, x3.2.2)) else ((C 44 [.inr (.inr (0, 19))] x2.2.2).bind fun x4 => if x4.1 = 0 then (some ((-3), 0, x4.2.2)) else (if p0 = 1 then (some ((x4.2.2.1 0 19 3), 0, x4.2.2)) else (some ((x4.2.2.1 0 19 4), 0, x4.2.2))))) : zR)) (zev d) :=
  (zev_m (T := zT_117) rfl rfl rfl).trans ((zrun_eq (zev d) zT_117 [] 49 _ _ _ _).trans (by rfl))

theorem ez_118 (d : Nat)  (σ : zM) : zev (d + 1) 118 [.inr (.inr (0, 30))] σ = (fun C : zC => ((C 27 [.inr (.inr (0, 0))] σ).bind fun x0 => (C 42 [.inr (.inr (0, 19)), .inr (.inr (0, 0)), .inl (-9)] x0.2.2).bind fun x1 => (C 44 [.inr (.inr (0, 19))] x1.2.2).bind fun x2 => if 0 < x2.1 then (some ((-3), 0, x2.2.2)) else (zrun C zT_118 41 [some (.inr (.inr (0, 30))), some (.inl 0)] [] x2.2.2) : zR)) (zev d) :=
  (zev_m (T := zT_118) rfl rfl rfl).trans ((zrun_eq (zev d) zT_118 [41] 48 _ _ _ _).trans (by rfl))
theorem ez_118_41 (C : zC) (a1 : Int32) (σ : zM) : zrun C zT_118 41 [some (.inr (.inr (0, 30))), some (.inl a1)] [] σ = if a1 < (σ.1 0 19 0) then ((C 42 [.inr (.inr (0, 19)), .inr (.inr (0, 0)), .inl a1] σ).bind fun x0 => (C 44 [.inr (.inr (0, 19))] x0.2.2).bind fun x1 => if 0 < x1.1 then (some (a1, 0, x1.2.2)) else (zrun C zT_118 41 [some (.inr (.inr (0, 30))), some (.inl (a1 + 1))] [] x1.2.2)) else (some ((-3), 0, σ)) :=
  (zrun_eq C zT_118 [41] 48 _ _ _ _).trans (by rfl)

theorem ez_119 (d : Nat) (p0 : Int32) (σ : zM) : zev (d + 1) 119 [.inr (.inr (0, 30)), .inl p0] σ = (fun C : zC => (some ((σ.1 0 0 3), 0, zwI σ 0 0 3 p0) : zR)) (zev d) :=
  (zev_m (T := zT_119) rfl rfl rfl).trans ((zrun_eq (zev d) zT_119 [] 15 _ _ _ _).trans (by rfl))

theorem ez_120 (d : Nat)  (σ : zM) : zev (d + 1) 120 [.inr (.inr (0, 30))] σ = (fun C : zC => ((C 122 [.inl (σ.1 0 0 3)] σ).bind fun x0 => (C 123 [.inl ((zwI x0.2.2 0 0 3 x0.1).1 0 0 3)] (zwI x0.2.2 0 0 3 x0.1)).bind fun x1 => some (((zwI x1.2.2 0 1 8 x1.1).1 0 1 8), 0, zwI x1.2.2 0 1 8 x1.1) : zR)) (zev d) :=
  (zev_m (T := zT_120) rfl rfl rfl).trans ((zrun_eq (zev d) zT_120 [] 25 _ _ _ _).trans (by rfl))

theorem ez_121 (d : Nat) (p0 : Int32) (σ : zM) : zev (d + 1) 121 [.inr (.inr (0, 30)), .inl p0] σ = (fun C : zC => ((C 141 [.inl p0, .inl 1, .inl 60] σ).bind fun x0 => if x0.1 = 0 then (some ((-1), 0, x0.2.2)) else ((C 109 [.inr (.inr (0, 30))] x0.2.2).bind fun x1 => zrun C zT_121 31 [some (.inr (.inr (0, 30))), some (.inl p0), some (.inl x1.1), some (.inl (x1.2.2.1 0 0 3)), some (.inl 0), some (.inl 0)] [] x1.2.2) : zR)) (zev d) :=
  (zev_m (T := zT_121) rfl rfl rfl).trans ((zrun_eq (zev d) zT_121 [31] 39 _ _ _ _).trans (by rfl))
theorem ez_121_31 (C : zC) (d0 : Option zV) (a1 : Int32) (a2 : Int32) (a3 : Int32) (a4 : Int32) (a5 : Int32) (σ : zM) : zrun C zT_121 31 [d0, some (.inl a1), some (.inl a2), some (.inl a3), some (.inl a4), some (.inl a5)] [] σ = if a5 < a1 then ((C 122 [.inl a3] σ).bind fun x0 => (C 123 [.inl x0.1] x0.2.2).bind fun x1 => (C 145 [.inl a2, .inl x1.1] x1.2.2).bind fun x2 => if x2.1 = 0 then (zrun C zT_121 31 [none, some (.inl a1), some (.inl a2), some (.inl x0.1), some (.inl a4), some (.inl (a5 + 1))] [] x2.2.2) else (zrun C zT_121 31 [none, some (.inl a1), some (.inl a2), some (.inl x0.1), some (.inl (a4 + 1)), some (.inl (a5 + 1))] [] x2.2.2)) else (some (a4, 0, σ)) :=
  (zrun_eq C zT_121 [31] 39 _ _ _ _).trans (by rfl)

theorem ez_122 (d : Nat) (p0 : Int32) (σ : zM) : zev (d + 1) 122 [.inl p0] σ = (fun C : zC => (some (((p0 * 1103515245) + 12345), 0, σ) : zR)) (zev d) :=
  (zev_m (T := zT_122) rfl rfl rfl).trans ((zrun_eq (zev d) zT_122 [] 11 _ _ _ _).trans (by rfl))

theorem ez_123 (d : Nat) (p0 : Int32) (σ : zM) : zev (d + 1) 123 [.inl p0] σ = (fun C : zC => (some (((Int32.toUInt32 p0 >>> (Int32.toUInt32 16 &&& Int32.toUInt32 31)).toInt32 - (Int32.toUInt32 p0 >>> (Int32.toUInt32 16 &&& Int32.toUInt32 31)).toInt32 / 10 * 10), 0, σ) : zR)) (zev d) :=
  (zev_m (T := zT_123) rfl rfl rfl).trans ((zrun_eq (zev d) zT_123 [] 11 _ _ _ _).trans (by rfl))

theorem ez_124 (d : Nat) (p0 : Int32) (σ : zM) : zev (d + 1) 124 [.inr (.inr (0, 30)), .inl p0] σ = (fun C : zC => ((C 13 [.inr (.inr (0, 1)), .inl p0] σ).bind fun x0 => if x0.1 = 0 then (some ((-1), 0, x0.2.2)) else ((C 46 [.inr (.inr (0, 38)), .inr (.inr (0, 0)), .inl p0] x0.2.2).bind fun x1 => some ((x1.2.2.1 0 38 0), 0, x1.2.2)) : zR)) (zev d) :=
  (zev_m (T := zT_124) rfl rfl rfl).trans ((zrun_eq (zev d) zT_124 [] 23 _ _ _ _).trans (by rfl))

theorem ez_125 (d : Nat) (p0 : Int32) (p1 : Int32) (σ : zM) : zev (d + 1) 125 [.inr (.inr (0, 30)), .inl p0, .inl p1] σ = (fun C : zC => ((C 45 [.inr (.inr (0, 38)), .inl p0, .inl p1] σ).bind fun x0 => if x0.1 = 0 then (some ((-9), 0, x0.2.2)) else (zgd (zin p0 9) (zgd (zin p1 3) (some ((x0.2.2.1 (Int32.toNatClampNeg p0) 40 (Int32.toNatClampNeg p1)), 0, x0.2.2)))) : zR)) (zev d) :=
  (zev_m (T := zT_125) rfl rfl rfl).trans ((zrun_eq (zev d) zT_125 [] 21 _ _ _ _).trans (by rfl))

theorem ez_126 (d : Nat) (p0 : Int32) (p1 : Int32) (p2 : Int32) (σ : zM) : zev (d + 1) 126 [.inr (.inr (0, 30)), .inl p0, .inl p1, .inl p2] σ = (fun C : zC => ((C 45 [.inr (.inr (0, 38)), .inl p0, .inl p1] σ).bind fun x0 => if x0.1 = 0 then (some ((-9), 0, x0.2.2)) else (zgd (zin p0 9) ((C 147 [.inr (.inr ((Int32.toNatClampNeg p0), 40)), .inl p1, .inl p2] x0.2.2).bind fun x1 => some (x1.1, 0, x1.2.2))) : zR)) (zev d) :=
  (zev_m (T := zT_126) rfl rfl rfl).trans ((zrun_eq (zev d) zT_126 [] 22 _ _ _ _).trans (by rfl))

theorem ez_127 (d : Nat)  (σ : zM) : zev (d + 1) 127 [.inr (.inr (0, 30))] σ = (fun C : zC => ((C 47 [.inr (.inr (0, 38)), .inr (.inr (0, 0))] σ).bind fun x0 => some (x0.1, 0, x0.2.2) : zR)) (zev d) :=
  (zev_m (T := zT_127) rfl rfl rfl).trans ((zrun_eq (zev d) zT_127 [] 11 _ _ _ _).trans (by rfl))

theorem ez_128 (d : Nat) (p0 : Int32) (p1 : Int32) (p2 : Int32) (σ : zM) : zev (d + 1) 128 [.inr (.inr (0, 30)), .inl p0, .inl p1, .inl p2] σ = (fun C : zC => ((C 144 [.inl p0] σ).bind fun x0 => if x0.1 = 0 then (some ((-1), 0, x0.2.2)) else ((C 141 [.inl p1, .inl (-1), .inl 4] x0.2.2).bind fun x1 => if x1.1 = 0 then (some ((-1), 0, x1.2.2)) else (if p1 = (-1) then (zgd (zin p0 4) (some (1, 0, zwI x1.2.2 0 42 (Int32.toNatClampNeg p0) (-1)))) else (if 40 < p2 then (some ((-1), 0, x1.2.2)) else (if p2 < 0 then (some ((-14), 0, x1.2.2)) else ((C 17 [.inr (.inr (0, 41)), .inl p0, .inl p1, .inl p2] x1.2.2).bind fun x2 => some (1, 0, x2.2.2)))))) : zR)) (zev d) :=
  (zev_m (T := zT_128) rfl rfl rfl).trans ((zrun_eq (zev d) zT_128 [] 43 _ _ _ _).trans (by rfl))

theorem ez_129 (d : Nat) (p0 : Int32) (p1 : Int32) (p2 : Int32) (σ : zM) : zev (d + 1) 129 [.inr (.inr (0, 30)), .inl p0, .inl p1, .inl p2] σ = (fun C : zC => ((C 144 [.inl p0] σ).bind fun x0 => if x0.1 = 0 then (some ((-1), 0, x0.2.2)) else (zgd (zin p0 4) (if (x0.2.2.1 0 42 (Int32.toNatClampNeg p0)) = (-1) then (some ((-11), 0, x0.2.2)) else ((C 19 [.inr (.inr (0, 41)), .inl p0, .inl p1] x0.2.2).bind fun x1 => if x1.1 = 0 then (some ((-12), 0, x1.2.2)) else (zgd (zin p0 4) (zgd (zin p0 4) ((C 138 [.inl (x1.2.2.1 0 42 (Int32.toNatClampNeg p0)), .inl p2] x1.2.2).bind fun x2 => zgd (zin p1 40) (some (1, 0, zwL x2.2.2 (Int32.toNatClampNeg p0) 45 (Int32.toNatClampNeg p1) x2.2.1)))))))) : zR)) (zev d) :=
  (zev_m (T := zT_129) rfl rfl rfl).trans ((zrun_eq (zev d) zT_129 [] 43 _ _ _ _).trans (by rfl))

theorem ez_130 (d : Nat) (p0 : Int32) (p1 : Int32) (p2 : Int32) (σ : zM) : zev (d + 1) 130 [.inr (.inr (0, 30)), .inl p0, .inl p1, .inl p2] σ = (fun C : zC => ((C 144 [.inl p0] σ).bind fun x0 => if x0.1 = 0 then (some ((-1), 0, x0.2.2)) else ((C 141 [.inl p1, .inl 0, .inl 4] x0.2.2).bind fun x1 => if x1.1 = 0 then (some ((-1), 0, x1.2.2)) else ((C 18 [.inr (.inr (0, 41)), .inl p0, .inl p1] x1.2.2).bind fun x2 => if x2.1 = 0 then ((C 19 [.inr (.inr (0, 41)), .inl p0, .inl p2] x2.2.2).bind fun x3 => if x3.1 = 0 then (some ((-12), 0, x3.2.2)) else (zgd (zin p0 4) (zgd (zin p2 40) (some ((Int64.toInt32 (x3.2.2.2 (Int32.toNatClampNeg p0) 45 (Int32.toNatClampNeg p2))), 0, x3.2.2))))) else (some (x2.1, 0, x2.2.2)))) : zR)) (zev d) :=
  (zev_m (T := zT_130) rfl rfl rfl).trans ((zrun_eq (zev d) zT_130 [] 42 _ _ _ _).trans (by rfl))

theorem ez_131 (d : Nat) (p0 : Int32) (p1 : Int32) (p2 : Int32) (p3 : Int32) (σ : zM) : zev (d + 1) 131 [.inr (.inr (0, 30)), .inl p0, .inl p1, .inl p2, .inl p3] σ = (fun C : zC => ((C 37 [.inr (.inr (0, 15)), .inl p0] σ).bind fun x0 => if x0.1 = 0 then (some ((-1), 0, x0.2.2)) else ((C 144 [.inl p1] x0.2.2).bind fun x1 => if x1.1 = 0 then (some ((-1), 0, x1.2.2)) else ((C 141 [.inl p3, .inl 0, .inl 20] x1.2.2).bind fun x2 => if x2.1 = 0 then (some ((-1), 0, x2.2.2)) else ((C 18 [.inr (.inr (0, 41)), .inl p1, .inl 0] x2.2.2).bind fun x3 => if x3.1 = 0 then (zrun C zT_131 59 [some (.inr (.inr (0, 30))), some (.inl p0), some (.inl p1), some (.inl p2), some (.inl p3), some (.inl x3.1), some (.inl 0), some (.inl 0), none] [] x3.2.2) else (some (x3.1, 0, x3.2.2))))) : zR)) (zev d) :=
  (zev_m (T := zT_131) rfl rfl rfl).trans ((zrun_eq (zev d) zT_131 [59] 77 _ _ _ _).trans (by rfl))
theorem ez_131_59 (C : zC) (a1 : Int32) (a2 : Int32) (a3 : Int32) (a4 : Int32) (d5 : Option zV) (a6 : Int32) (a7 : Int32) (d8 : Option zV) (σ : zM) : zrun C zT_131 59 [some (.inr (.inr (0, 30))), some (.inl a1), some (.inl a2), some (.inl a3), some (.inl a4), d5, some (.inl a6), some (.inl a7), d8] [] σ = if a7 < a4 then ((C 19 [.inr (.inr (0, 41)), .inl a2, .inl (a3 + a7)] σ).bind fun x0 => if x0.1 = 0 then (some ((-12), 0, x0.2.2)) else (zgd (zin a2 4) (zgd (zin (a3 + a7) 40) ((C 14 [.inr (.inr (0, 1)), .inl (Int64.toInt32 (x0.2.2.2 (Int32.toNatClampNeg a2) 45 (Int32.toNatClampNeg (a3 + a7))))] x0.2.2).bind fun x1 => if x1.1 = 0 then (zrun C zT_131 59 [some (.inr (.inr (0, 30))), some (.inl a1), some (.inl a2), some (.inl a3), some (.inl a4), none, some (.inl a6), some (.inl (a7 + 1)), some (.inl (Int64.toInt32 (x0.2.2.2 (Int32.toNatClampNeg a2) 45 (Int32.toNatClampNeg (a3 + a7)))))] [] x1.2.2) else (zgd (zin a1 8) (zrun C zT_131 59 [some (.inr (.inr (0, 30))), some (.inl a1), some (.inl a2), some (.inl a3), some (.inl a4), none, some (.inl (a6 + 1)), some (.inl (a7 + 1)), some (.inl (Int64.toInt32 (x0.2.2.2 (Int32.toNatClampNeg a2) 45 (Int32.toNatClampNeg (a3 + a7)))))] [] (zwI x1.2.2 0 18 (Int32.toNatClampNeg a1) (Int64.toInt32 (x0.2.2.2 (Int32.toNatClampNeg a2) 45 (Int32.toNatClampNeg (a3 + a7))))))))))) else (some (a6, 0, σ)) :=
  (zrun_eq C zT_131 [59] 77 _ _ _ _).trans (by rfl)

theorem ez_132 (d : Nat) (p0 : Int32) (p1 : Int32) (p2 : Int32) (σ : zM) : zev (d + 1) 132 [.inr (.inr (0, 30)), .inl p0, .inl p1, .inl p2] σ = (fun C : zC => ((C 144 [.inl p0] σ).bind fun x0 => if x0.1 = 0 then (some ((-1), 0, x0.2.2)) else (if p1 = 0 then ((C 13 [.inr (.inr (0, 1)), .inl p2] x0.2.2).bind fun x1 => if x1.1 = 0 then (some ((-1), 0, x1.2.2)) else ((C 20 [.inr (.inr (0, 41)), .inl p0, .inl p2] x1.2.2).bind fun x2 => some (1, 0, x2.2.2))) else if p1 = 1 then ((C 144 [.inl p2] x0.2.2).bind fun x3 => if x3.1 = 0 then (some ((-1), 0, x3.2.2)) else ((C 21 [.inr (.inr (0, 41)), .inl p0, .inl p2] x3.2.2).bind fun x4 => some (1, 0, x4.2.2))) else if p1 = 2 then ((C 22 [.inr (.inr (0, 41)), .inl p0] x0.2.2).bind fun x5 => some (1, 0, x5.2.2)) else (some ((-1), 0, x0.2.2))) : zR)) (zev d) :=
  (zev_m (T := zT_132) rfl rfl rfl).trans ((zrun_eq (zev d) zT_132 [] 47 _ _ _ _).trans (by rfl))

theorem ez_133 (d : Nat) (p0 : Int32) (p1 : Int32) (σ : zM) : zev (d + 1) 133 [.inr (.inr (0, 30)), .inl p0, .inl p1] σ = (fun C : zC => ((C 141 [.inl p1, .inl 0, .inl 5] σ).bind fun x0 => (C 144 [.inl p0] x0.2.2).bind fun x1 => if x1.1 = 0 then (some ((-1), 0, x1.2.2)) else (if x0.1 = 0 then ((C 141 [.inl p1, .inl 10, .inl 14] x1.2.2).bind fun x2 => if x2.1 = 0 then (some ((-1), 0, x2.2.2)) else (zrun C zT_133 31 [some (.inr (.inr (0, 30))), some (.inl p0), some (.inl p1), some (.inl x0.1), none] [] x2.2.2)) else (zrun C zT_133 31 [some (.inr (.inr (0, 30))), some (.inl p0), some (.inl p1), some (.inl x0.1), none] [] x1.2.2)) : zR)) (zev d) :=
  (zev_m (T := zT_133) rfl rfl rfl).trans ((zrun_eq (zev d) zT_133 [31] 68 _ _ _ _).trans (by rfl))
theorem ez_133_31 (C : zC) (a1 : Int32) (a2 : Int32) (a3 : Int32) (d4 : Option zV) (σ : zM) : zrun C zT_133 31 [some (.inr (.inr (0, 30))), some (.inl a1), some (.inl a2), some (.inl a3), d4] [] σ = (C 24 [.inr (.inr (0, 41)), .inl a1] σ).bind fun x0 => if x0.1 = 0 then ((C 137 [.inr (.inr (0, 30)), .inl a1] x0.2.2).bind fun x1 => if x1.1 = (-9) then (some ((-11), 0, x1.2.2)) else (if a3 = 0 then (some ((-13), 0, x1.2.2)) else (zgd (zin x1.1 9) ((C 146 [.inl (x1.2.2.1 0 2 (Int32.toNatClampNeg x1.1)), .inl a2] x1.2.2).bind fun x2 => if x2.1 = 0 then (some ((-13), 0, x2.2.2)) else (some (x1.1, 0, x2.2.2)))))) else (zgd (zin a1 4) (if (x0.2.2.1 0 48 (Int32.toNatClampNeg a1)) = (a2 - 10) then (zgd (zin a1 4) (some ((x0.2.2.1 0 47 (Int32.toNatClampNeg a1)), 0, x0.2.2))) else (some ((-13), 0, x0.2.2)))) :=
  (zrun_eq C zT_133 [31] 68 _ _ _ _).trans (by rfl)

theorem ez_134 (d : Nat) (p0 : Int32) (p1 : Int32) (p2 : Int32) (σ : zM) : zev (d + 1) 134 [.inr (.inr (0, 30)), .inl p0, .inl p1, .inl p2] σ = (fun C : zC => ((C 144 [.inl p0] (zwI σ 0 49 0 0)).bind fun x0 => if x0.1 = 0 then (some (0, 0, x0.2.2)) else ((C 141 [.inl p1, .inl 0, .inl 3] x0.2.2).bind fun x1 => if x1.1 = 0 then (some (0, 0, x1.2.2)) else ((C 137 [.inr (.inr (0, 30)), .inl p0] x1.2.2).bind fun x2 => if x2.1 = (-9) then (some (0, 0, x2.2.2)) else (zgd (zin x2.1 9) (zgd (zin x2.1 9) ((C 0 [.inr (.inr (0, 49)), .inl (x2.2.2.1 0 2 (Int32.toNatClampNeg x2.1)), .inl x2.1, .inl (x2.2.2.1 0 4 (Int32.toNatClampNeg x2.1))] x2.2.2).bind fun x3 => if p1 = 0 then ((C 2 [.inr (.inr (0, 49)), .inl p2] x3.2.2).bind fun x4 => if (x4.2.2.1 0 49 2) = 0 then (some (x4.1, 0, x4.2.2)) else (some ((-15), 0, x4.2.2))) else if p1 = 1 then ((C 3 [.inr (.inr (0, 49)), .inl p2] x3.2.2).bind fun x5 => if (x5.2.2.1 0 49 2) = 0 then (some (x5.1, 0, x5.2.2)) else (some ((-15), 0, x5.2.2))) else if p1 = 2 then ((C 4 [.inr (.inr (0, 49)), .inl p2] x3.2.2).bind fun x6 => if (x6.2.2.1 0 49 2) = 0 then (some (x6.1, 0, x6.2.2)) else (some ((-15), 0, x6.2.2))) else ((C 5 [.inr (.inr (0, 49)), .inl p2] x3.2.2).bind fun x7 => if (x7.2.2.1 0 49 2) = 0 then (some (x7.1, 0, x7.2.2)) else (some ((-15), 0, x7.2.2)))))))) : zR)) (zev d) :=
  (zev_m (T := zT_134) rfl rfl rfl).trans ((zrun_eq (zev d) zT_134 [] 77 _ _ _ _).trans (by rfl))

theorem ez_135 (d : Nat) (p0 : Int32) (σ : zM) : zev (d + 1) 135 [.inr (.inr (0, 30)), .inl p0] σ = (fun C : zC => ((C 141 [.inl p0, .inl 0, .inl ((σ.1 0 49 0) - 1)] σ).bind fun x0 => if x0.1 = 0 then (some ((-3), 0, x0.2.2)) else (zgd (zin p0 30) (some ((x0.2.2.1 0 50 (Int32.toNatClampNeg p0)), 0, x0.2.2))) : zR)) (zev d) :=
  (zev_m (T := zT_135) rfl rfl rfl).trans ((zrun_eq (zev d) zT_135 [] 22 _ _ _ _).trans (by rfl))

theorem ez_136 (d : Nat) (p0 : Int32) (σ : zM) : zev (d + 1) 136 [.inr (.inr (0, 30)), .inl p0] σ = (fun C : zC => (if p0 = 0 then (some ((σ.1 0 1 0), 0, σ)) else if p0 = 1 then (some ((σ.1 0 7 0), 0, σ)) else if p0 = 2 then (some ((σ.1 0 15 0), 0, σ)) else if p0 = 3 then (some ((σ.1 0 19 0), 0, σ)) else if p0 = 4 then (some ((σ.1 0 38 0), 0, σ)) else if p0 = 5 then (some ((σ.1 0 31 0), 0, σ)) else if p0 = 6 then (some ((σ.1 0 49 0), 0, σ)) else (some ((-1), 0, σ)) : zR)) (zev d) :=
  (zev_m (T := zT_136) rfl rfl rfl).trans ((zrun_eq (zev d) zT_136 [] 42 _ _ _ _).trans (by rfl))

theorem ez_137 (d : Nat) (p0 : Int32) (σ : zM) : zev (d + 1) 137 [.inr (.inr (0, 30)), .inl p0] σ = (fun C : zC => ((C 23 [.inr (.inr (0, 41)), .inl p0] σ).bind fun x0 => if x0.1 = 0 then (if 0 = 0 then (some ((-9), 0, x0.2.2)) else (zgd (zin p0 4) (some ((x0.2.2.1 0 47 (Int32.toNatClampNeg p0)), 0, x0.2.2)))) else (zgd (zin p0 4) ((C 13 [.inr (.inr (0, 1)), .inl (x0.2.2.1 0 47 (Int32.toNatClampNeg p0))] x0.2.2).bind fun x1 => if x1.1 = 0 then (if 0 = 0 then (some ((-9), 0, x1.2.2)) else (zgd (zin p0 4) (some ((x1.2.2.1 0 47 (Int32.toNatClampNeg p0)), 0, x1.2.2)))) else (if 1 = 0 then (some ((-9), 0, x1.2.2)) else (zgd (zin p0 4) (some ((x1.2.2.1 0 47 (Int32.toNatClampNeg p0)), 0, x1.2.2)))))) : zR)) (zev d) :=
  (zev_m (T := zT_137) rfl rfl rfl).trans ((zrun_eq (zev d) zT_137 [] 34 _ _ _ _).trans (by rfl))

theorem ez_138 (d : Nat) (p0 : Int32) (p1 : Int32) (σ : zM) : zev (d + 1) 138 [.inl p0, .inl p1] σ = (fun C : zC => (if p0 = 0 then (some (0, (Int32.toInt64 ((Int32.toInt8 p1).toInt32)), σ)) else if p0 = 1 then (some (0, (Int32.toInt64 ((Int32.toInt16 p1).toInt32)), σ)) else if p0 = 2 then (some (0, (Int32.toInt64 p1), σ)) else if p0 = 3 then (some (0, (Int32.toInt64 p1), σ)) else if p0 = 4 then (if p1 = 0 then (some (0, 0, σ)) else (some (0, 1, σ))) else (some (0, (Int32.toInt64 p1), σ)) : zR)) (zev d) :=
  (zev_m (T := zT_138) rfl rfl rfl).trans ((zrun_eq (zev d) zT_138 [] 24 _ _ _ _).trans (by rfl))

theorem ez_139 (d : Nat)  (σ : zM) : zev (d + 1) 139 [.inr (.inr (0, 30))] σ = (fun C : zC => ((C 25 [.inr (.inr (2, 0)), .inr (.inr (0, 0))] σ).bind fun x0 => zgd (z01 1) (some (1, 0, zwI x0.2.2 0 30 3 1)) : zR)) (zev d) :=
  (zev_m (T := zT_139) rfl rfl rfl).trans ((zrun_eq (zev d) zT_139 [] 15 _ _ _ _).trans (by rfl))

theorem ez_140 (d : Nat)  (σ : zM) : zev (d + 1) 140 [.inr (.inr (0, 30))] σ = (fun C : zC => (if (σ.1 0 30 3) = 0 then (some ((-3), 0, σ)) else ((C 25 [.inr (.inr (0, 0)), .inr (.inr (2, 0))] σ).bind fun x0 => some ((x0.2.2.1 0 1 0), 0, x0.2.2)) : zR)) (zev d) :=
  (zev_m (T := zT_140) rfl rfl rfl).trans ((zrun_eq (zev d) zT_140 [] 20 _ _ _ _).trans (by rfl))

theorem ez_141 (d : Nat) (p0 : Int32) (p1 : Int32) (p2 : Int32) (σ : zM) : zev (d + 1) 141 [.inl p0, .inl p1, .inl p2] σ = (fun C : zC => (if p0 < p1 then (zgd (zret 3 0) (some (0, 0, σ))) else (if p2 < p0 then (zgd (zret 3 0) (some (0, 0, σ))) else (zgd (zret 3 1) (some (1, 0, σ)))) : zR)) (zev d) :=
  (zev_m (T := zT_141) rfl rfl rfl).trans ((zrun_eq (zev d) zT_141 [] 15 _ _ _ _).trans (by rfl))

theorem ez_142 (d : Nat) (p0 : Int32) (σ : zM) : zev (d + 1) 142 [.inl p0] σ = (fun C : zC => ((C 141 [.inl p0, .inl 1, .inl 5] σ).bind fun x0 => zgd (zret 3 x0.1) (some (x0.1, 0, x0.2.2)) : zR)) (zev d) :=
  (zev_m (T := zT_142) rfl rfl rfl).trans ((zrun_eq (zev d) zT_142 [] 10 _ _ _ _).trans (by rfl))

theorem ez_143 (d : Nat) (p0 : Int32) (σ : zM) : zev (d + 1) 143 [.inl p0] σ = (fun C : zC => (if p0 = 0 then (zgd (zret 3 1) (some (1, 0, σ))) else (if p0 = 1 then (zgd (zret 3 1) (some (1, 0, σ))) else (zgd (zret 3 0) (some (0, 0, σ)))) : zR)) (zev d) :=
  (zev_m (T := zT_143) rfl rfl rfl).trans ((zrun_eq (zev d) zT_143 [] 14 _ _ _ _).trans (by rfl))

theorem ez_144 (d : Nat) (p0 : Int32) (σ : zM) : zev (d + 1) 144 [.inl p0] σ = (fun C : zC => ((C 141 [.inl p0, .inl 0, .inl 3] σ).bind fun x0 => zgd (zret 3 x0.1) (some (x0.1, 0, x0.2.2)) : zR)) (zev d) :=
  (zev_m (T := zT_144) rfl rfl rfl).trans ((zrun_eq (zev d) zT_144 [] 10 _ _ _ _).trans (by rfl))

theorem ez_145 (d : Nat) (p0 : Int32) (p1 : Int32) (σ : zM) : zev (d + 1) 145 [.inl p0, .inl p1] σ = (fun C : zC => (if ((p0 >>> (p1 &&& 31)) &&& 1) = 0 then (zgd (zret 3 0) (some (0, 0, σ))) else (zgd (zret 3 1) (some (1, 0, σ))) : zR)) (zev d) :=
  (zev_m (T := zT_145) rfl rfl rfl).trans ((zrun_eq (zev d) zT_145 [] 15 _ _ _ _).trans (by rfl))

theorem ez_146 (d : Nat) (p0 : Int32) (p1 : Int32) (σ : zM) : zev (d + 1) 146 [.inl p0, .inl p1] σ = (fun C : zC => (if p1 = 0 then (zgd (zret 3 1) (some (1, 0, σ))) else (if p1 = p0 then (zgd (zret 3 1) (some (1, 0, σ))) else (if p1 = 2 then (if p0 = 3 then (zgd (zret 3 1) (some (1, 0, σ))) else (if p1 = 4 then (if p0 = 5 then (zgd (zret 3 1) (some (1, 0, σ))) else (zgd (zret 3 0) (some (0, 0, σ)))) else (zgd (zret 3 0) (some (0, 0, σ))))) else (if p1 = 4 then (if p0 = 5 then (zgd (zret 3 1) (some (1, 0, σ))) else (zgd (zret 3 0) (some (0, 0, σ)))) else (zgd (zret 3 0) (some (0, 0, σ)))))) : zR)) (zev d) :=
  (zev_m (T := zT_146) rfl rfl rfl).trans ((zrun_eq (zev d) zT_146 [] 26 _ _ _ _).trans (by rfl))

theorem ez_147k2 (d : Nat) (h0 : Nat) (p1 : Int32) (p2 : Int32) (σ : zM) : zev (d + 1) 147 [.inr (.inr (h0, 2)), .inl p1, .inl p2] σ = (fun C : zC => (zgd (zin p1 9) (zgd (zin p1 9) (some ((σ.1 h0 2 (Int32.toNatClampNeg p1)), 0, zwI σ h0 2 (Int32.toNatClampNeg p1) p2))) : zR)) (zev d) :=
  (zev_m (T := zT_147) rfl rfl rfl).trans ((zrun_eq (zev d) zT_147 [] 15 _ _ _ _).trans (by rfl))

theorem ez_147k3 (d : Nat) (h0 : Nat) (p1 : Int32) (p2 : Int32) (σ : zM) : zev (d + 1) 147 [.inr (.inr (h0, 3)), .inl p1, .inl p2] σ = (fun C : zC => (zgd (zin p1 9) (zgd (zin p1 9) (some ((σ.1 h0 3 (Int32.toNatClampNeg p1)), 0, zwI σ h0 3 (Int32.toNatClampNeg p1) p2))) : zR)) (zev d) :=
  (zev_m (T := zT_147) rfl rfl rfl).trans ((zrun_eq (zev d) zT_147 [] 15 _ _ _ _).trans (by rfl))

theorem ez_147k4 (d : Nat) (h0 : Nat) (p1 : Int32) (p2 : Int32) (σ : zM) : zev (d + 1) 147 [.inr (.inr (h0, 4)), .inl p1, .inl p2] σ = (fun C : zC => (zgd (zin p1 9) (zgd (zin p1 9) (some ((σ.1 h0 4 (Int32.toNatClampNeg p1)), 0, zwI σ h0 4 (Int32.toNatClampNeg p1) p2))) : zR)) (zev d) :=
  (zev_m (T := zT_147) rfl rfl rfl).trans ((zrun_eq (zev d) zT_147 [] 15 _ _ _ _).trans (by rfl))

theorem ez_147k5 (d : Nat) (h0 : Nat) (p1 : Int32) (p2 : Int32) (σ : zM) : zev (d + 1) 147 [.inr (.inr (h0, 5)), .inl p1, .inl p2] σ = (fun C : zC => (zgd (zin p1 9) (zgd (zin p1 9) (some ((σ.1 h0 5 (Int32.toNatClampNeg p1)), 0, zwI σ h0 5 (Int32.toNatClampNeg p1) p2))) : zR)) (zev d) :=
  (zev_m (T := zT_147) rfl rfl rfl).trans ((zrun_eq (zev d) zT_147 [] 15 _ _ _ _).trans (by rfl))

theorem ez_147k18 (d : Nat) (h0 : Nat) (p1 : Int32) (p2 : Int32) (σ : zM) : zev (d + 1) 147 [.inr (.inr (h0, 18)), .inl p1, .inl p2] σ = (fun C : zC => (zgd (zin p1 8) (zgd (zin p1 8) (some ((σ.1 h0 18 (Int32.toNatClampNeg p1)), 0, zwI σ h0 18 (Int32.toNatClampNeg p1) p2))) : zR)) (zev d) :=
  (zev_m (T := zT_147) rfl rfl rfl).trans ((zrun_eq (zev d) zT_147 [] 15 _ _ _ _).trans (by rfl))

theorem ez_147k40 (d : Nat) (h0 : Nat) (p1 : Int32) (p2 : Int32) (σ : zM) : zev (d + 1) 147 [.inr (.inr (h0, 40)), .inl p1, .inl p2] σ = (fun C : zC => (zgd (zin p1 3) (zgd (zin p1 3) (some ((σ.1 h0 40 (Int32.toNatClampNeg p1)), 0, zwI σ h0 40 (Int32.toNatClampNeg p1) p2))) : zR)) (zev d) :=
  (zev_m (T := zT_147) rfl rfl rfl).trans ((zrun_eq (zev d) zT_147 [] 15 _ _ _ _).trans (by rfl))

theorem ez_148k2 (d : Nat) (h0 : Nat) (h1 : Nat) (σ : zM) : zev (d + 1) 148 [.inr (.inr (h0, 2)), .inr (.inr (h1, 2))] σ = (fun C : zC => ((C 273 [.inl (nI 9), .inl (nI 9)] σ).bind fun x0 => (C 282 [.inr (.inr (h0, 2)), .inl 0, .inr (.inr (h1, 2)), .inl 0, .inl x0.1] x0.2.2).bind fun x1 => some (0, 0, x1.2.2) : zR)) (zev d) :=
  (zev_m (T := zT_148) rfl rfl rfl).trans ((zrun_eq (zev d) zT_148 [] 16 _ _ _ _).trans (by rfl))

theorem ez_148k3 (d : Nat) (h0 : Nat) (h1 : Nat) (σ : zM) : zev (d + 1) 148 [.inr (.inr (h0, 3)), .inr (.inr (h1, 3))] σ = (fun C : zC => ((C 273 [.inl (nI 9), .inl (nI 9)] σ).bind fun x0 => (C 282 [.inr (.inr (h0, 3)), .inl 0, .inr (.inr (h1, 3)), .inl 0, .inl x0.1] x0.2.2).bind fun x1 => some (0, 0, x1.2.2) : zR)) (zev d) :=
  (zev_m (T := zT_148) rfl rfl rfl).trans ((zrun_eq (zev d) zT_148 [] 16 _ _ _ _).trans (by rfl))

theorem ez_148k4 (d : Nat) (h0 : Nat) (h1 : Nat) (σ : zM) : zev (d + 1) 148 [.inr (.inr (h0, 4)), .inr (.inr (h1, 4))] σ = (fun C : zC => ((C 273 [.inl (nI 9), .inl (nI 9)] σ).bind fun x0 => (C 282 [.inr (.inr (h0, 4)), .inl 0, .inr (.inr (h1, 4)), .inl 0, .inl x0.1] x0.2.2).bind fun x1 => some (0, 0, x1.2.2) : zR)) (zev d) :=
  (zev_m (T := zT_148) rfl rfl rfl).trans ((zrun_eq (zev d) zT_148 [] 16 _ _ _ _).trans (by rfl))

theorem ez_148k5 (d : Nat) (h0 : Nat) (h1 : Nat) (σ : zM) : zev (d + 1) 148 [.inr (.inr (h0, 5)), .inr (.inr (h1, 5))] σ = (fun C : zC => ((C 273 [.inl (nI 9), .inl (nI 9)] σ).bind fun x0 => (C 282 [.inr (.inr (h0, 5)), .inl 0, .inr (.inr (h1, 5)), .inl 0, .inl x0.1] x0.2.2).bind fun x1 => some (0, 0, x1.2.2) : zR)) (zev d) :=
  (zev_m (T := zT_148) rfl rfl rfl).trans ((zrun_eq (zev d) zT_148 [] 16 _ _ _ _).trans (by rfl))

theorem ez_148k6 (d : Nat) (h0 : Nat) (h1 : Nat) (σ : zM) : zev (d + 1) 148 [.inr (.inr (h0, 6)), .inr (.inr (h1, 6))] σ = (fun C : zC => ((C 273 [.inl (nI 9), .inl (nI 9)] σ).bind fun x0 => (C 282 [.inr (.inr (h0, 6)), .inl 0, .inr (.inr (h1, 6)), .inl 0, .inl x0.1] x0.2.2).bind fun x1 => some (0, 0, x1.2.2) : zR)) (zev d) :=
  (zev_m (T := zT_148) rfl rfl rfl).trans ((zrun_eq (zev d) zT_148 [] 16 _ _ _ _).trans (by rfl))

theorem ez_148k8 (d : Nat) (h0 : Nat) (h1 : Nat) (σ : zM) : zev (d + 1) 148 [.inr (.inr (h0, 8)), .inr (.inr (h1, 8))] σ = (fun C : zC => ((C 273 [.inl (nI 8), .inl (nI 8)] σ).bind fun x0 => (C 282 [.inr (.inr (h0, 8)), .inl 0, .inr (.inr (h1, 8)), .inl 0, .inl x0.1] x0.2.2).bind fun x1 => some (0, 0, x1.2.2) : zR)) (zev d) :=
  (zev_m (T := zT_148) rfl rfl rfl).trans ((zrun_eq (zev d) zT_148 [] 16 _ _ _ _).trans (by rfl))

theorem ez_148k9 (d : Nat) (h0 : Nat) (h1 : Nat) (σ : zM) : zev (d + 1) 148 [.inr (.inr (h0, 9)), .inr (.inr (h1, 9))] σ = (fun C : zC => ((C 273 [.inl (nI 8), .inl (nI 8)] σ).bind fun x0 => (C 282 [.inr (.inr (h0, 9)), .inl 0, .inr (.inr (h1, 9)), .inl 0, .inl x0.1] x0.2.2).bind fun x1 => some (0, 0, x1.2.2) : zR)) (zev d) :=
  (zev_m (T := zT_148) rfl rfl rfl).trans ((zrun_eq (zev d) zT_148 [] 16 _ _ _ _).trans (by rfl))

theorem ez_148k10 (d : Nat) (h0 : Nat) (h1 : Nat) (σ : zM) : zev (d + 1) 148 [.inr (.inr (h0, 10)), .inr (.inr (h1, 10))] σ = (fun C : zC => ((C 273 [.inl (nI 8), .inl (nI 8)] σ).bind fun x0 => (C 282 [.inr (.inr (h0, 10)), .inl 0, .inr (.inr (h1, 10)), .inl 0, .inl x0.1] x0.2.2).bind fun x1 => some (0, 0, x1.2.2) : zR)) (zev d) :=
  (zev_m (T := zT_148) rfl rfl rfl).trans ((zrun_eq (zev d) zT_148 [] 16 _ _ _ _).trans (by rfl))

theorem ez_148k11 (d : Nat) (h0 : Nat) (h1 : Nat) (σ : zM) : zev (d + 1) 148 [.inr (.inr (h0, 11)), .inr (.inr (h1, 11))] σ = (fun C : zC => ((C 273 [.inl (nI 8), .inl (nI 8)] σ).bind fun x0 => (C 282 [.inr (.inr (h0, 11)), .inl 0, .inr (.inr (h1, 11)), .inl 0, .inl x0.1] x0.2.2).bind fun x1 => some (0, 0, x1.2.2) : zR)) (zev d) :=
  (zev_m (T := zT_148) rfl rfl rfl).trans ((zrun_eq (zev d) zT_148 [] 16 _ _ _ _).trans (by rfl))

theorem ez_148k12 (d : Nat) (h0 : Nat) (h1 : Nat) (σ : zM) : zev (d + 1) 148 [.inr (.inr (h0, 12)), .inr (.inr (h1, 12))] σ = (fun C : zC => ((C 273 [.inl (nI 200), .inl (nI 200)] σ).bind fun x0 => (C 282 [.inr (.inr (h0, 12)), .inl 0, .inr (.inr (h1, 12)), .inl 0, .inl x0.1] x0.2.2).bind fun x1 => some (0, 0, x1.2.2) : zR)) (zev d) :=
  (zev_m (T := zT_148) rfl rfl rfl).trans ((zrun_eq (zev d) zT_148 [] 16 _ _ _ _).trans (by rfl))

theorem ez_148k16 (d : Nat) (h0 : Nat) (h1 : Nat) (σ : zM) : zev (d + 1) 148 [.inr (.inr (h0, 16)), .inr (.inr (h1, 16))] σ = (fun C : zC => ((C 273 [.inl (nI 8), .inl (nI 8)] σ).bind fun x0 => (C 282 [.inr (.inr (h0, 16)), .inl 0, .inr (.inr (h1, 16)), .inl 0, .inl x0.1] x0.2.2).bind fun x1 => some (0, 0, x1.2.2) : zR)) (zev d) :=
  (zev_m (T := zT_148) rfl rfl rfl).trans ((zrun_eq (zev d) zT_148 [] 16 _ _ _ _).trans (by rfl))

theorem ez_148k17 (d : Nat) (h0 : Nat) (h1 : Nat) (σ : zM) : zev (d + 1) 148 [.inr (.inr (h0, 17)), .inr (.inr (h1, 17))] σ = (fun C : zC => ((C 273 [.inl (nI 8), .inl (nI 8)] σ).bind fun x0 => (C 282 [.inr (.inr (h0, 17)), .inl 0, .inr (.inr (h1, 17)), .inl 0, .inl x0.1] x0.2.2).bind fun x1 => some (0, 0, x1.2.2) : zR)) (zev d) :=
  (zev_m (T := zT_148) rfl rfl rfl).trans ((zrun_eq (zev d) zT_148 [] 16 _ _ _ _).trans (by rfl))

theorem ez_148k18 (d : Nat) (h0 : Nat) (h1 : Nat) (σ : zM) : zev (d + 1) 148 [.inr (.inr (h0, 18)), .inr (.inr (h1, 18))] σ = (fun C : zC => ((C 273 [.inl (nI 8), .inl (nI 8)] σ).bind fun x0 => (C 282 [.inr (.inr (h0, 18)), .inl 0, .inr (.inr (h1, 18)), .inl 0, .inl x0.1] x0.2.2).bind fun x1 => some (0, 0, x1.2.2) : zR)) (zev d) :=
  (zev_m (T := zT_148) rfl rfl rfl).trans ((zrun_eq (zev d) zT_148 [] 16 _ _ _ _).trans (by rfl))

theorem ez_148k20 (d : Nat) (h0 : Nat) (h1 : Nat) (σ : zM) : zev (d + 1) 148 [.inr (.inr (h0, 20)), .inr (.inr (h1, 20))] σ = (fun C : zC => ((C 273 [.inl (nI 6), .inl (nI 6)] σ).bind fun x0 => (C 282 [.inr (.inr (h0, 20)), .inl 0, .inr (.inr (h1, 20)), .inl 0, .inl x0.1] x0.2.2).bind fun x1 => some (0, 0, x1.2.2) : zR)) (zev d) :=
  (zev_m (T := zT_148) rfl rfl rfl).trans ((zrun_eq (zev d) zT_148 [] 16 _ _ _ _).trans (by rfl))

theorem ez_148k21 (d : Nat) (h0 : Nat) (h1 : Nat) (σ : zM) : zev (d + 1) 148 [.inr (.inr (h0, 21)), .inr (.inr (h1, 21))] σ = (fun C : zC => ((C 273 [.inl (nI 6), .inl (nI 6)] σ).bind fun x0 => (C 282 [.inr (.inr (h0, 21)), .inl 0, .inr (.inr (h1, 21)), .inl 0, .inl x0.1] x0.2.2).bind fun x1 => some (0, 0, x1.2.2) : zR)) (zev d) :=
  (zev_m (T := zT_148) rfl rfl rfl).trans ((zrun_eq (zev d) zT_148 [] 16 _ _ _ _).trans (by rfl))
