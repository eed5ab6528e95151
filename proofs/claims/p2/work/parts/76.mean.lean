theorem zcS_g {f : Nat → Int32} {g : Int} {x y : Int32} {st : List Int32} (h : -8 ≤ g ∧ g ≤ -6 ∨ -11 ≤ g ∧ g ≤ -10) : zcS f (iI g) (y :: x :: st) = zB (zcH (iI g) x y) :: st := by
  have e5 : (iI g < -5) = (g < -5) := by rw [show (-5 : Int32) = iI (-5) by decide]; exact iI_lt (by omega) (by decide)
  have e9 : (iI g = -9) = (g = -9) := by rw [show (-9 : Int32) = iI (-9) by decide]; exact iIm (by omega) (by decide)
  unfold zcS
  rw [if_pos (show iI g < -5 by rw [e5]; omega), if_neg (show ¬ iI g = -9 by rw [e9]; omega)]
theorem zcS_n {f : Nat → Int32} {x : Int32} {st : List Int32} : zcS f (iI (-9)) (x :: st) = (1 - x) :: st := by
  unfold zcS
  rw [if_pos (show iI (-9) < -5 by decide), if_pos (show iI (-9) = -9 by decide)]
theorem zmS_g {f : Nat → Int32} {g : Int} {x y : Int32} {st : List Int32} (h : -22 ≤ g ∧ g ≤ -11) (h20 : g ≠ -20) : zmS f (iI g) (y :: x :: st) = some (zB (zmH (iI g) x y) :: st) := by
  have e10 : (-10 < iI g) = (-10 < g) := by rw [show (-10 : Int32) = iI (-10) by decide]; exact iI_lt (by decide) (by omega)
  have e20 : (iI g = -20) = (g = -20) := by rw [show (-20 : Int32) = iI (-20) by decide]; exact iIm (by omega) (by decide)
  unfold zmS
  rw [if_neg (show ¬ -10 < iI g by rw [e10]; omega), if_neg (show ¬ iI g = -20 by rw [e20]; exact h20)]
theorem zmS_n {f : Nat → Int32} {x : Int32} {st : List Int32} : zmS f (iI (-20)) (x :: st) = some ((1 - x) :: st) := by
  unfold zmS
  rw [if_neg (show ¬ (-10 : Int32) < iI (-20) by decide), if_pos (show iI (-20) = -20 by decide)]
theorem zH_g {g : Int} {x y : Int32} (h : -8 ≤ g ∧ g ≤ -6) : zcH (iI g) x y = zmH (iI (g - 5)) x y := by
  rcases (by omega : g = -6 ∨ g = -7 ∨ g = -8) with rfl | rfl | rfl
  · unfold zcH zmH
    rw [if_neg (show ¬ iI (-6) = -10 by decide), if_neg (show ¬ iI (-6) = -9 by decide), if_neg (show ¬ iI (-6) = -8 by decide), if_neg (show ¬ iI (-6) = -7 by decide), if_pos (show iI (-6) = -6 by decide), if_neg (show ¬ iI (-6 - 5) = -21 by decide), if_neg (show ¬ iI (-6 - 5) = -13 by decide), if_neg (show ¬ iI (-6 - 5) = -12 by decide), if_pos (show iI (-6 - 5) = -11 by decide)]
  · unfold zcH zmH
    rw [if_neg (show ¬ iI (-7) = -10 by decide), if_neg (show ¬ iI (-7) = -9 by decide), if_neg (show ¬ iI (-7) = -8 by decide), if_pos (show iI (-7) = -7 by decide), if_neg (show ¬ iI (-7 - 5) = -21 by decide), if_neg (show ¬ iI (-7 - 5) = -13 by decide), if_pos (show iI (-7 - 5) = -12 by decide)]
  · unfold zcH zmH
    rw [if_neg (show ¬ iI (-8) = -10 by decide), if_neg (show ¬ iI (-8) = -9 by decide), if_pos (show iI (-8) = -8 by decide), if_neg (show ¬ iI (-8 - 5) = -21 by decide), if_pos (show iI (-8 - 5) = -13 by decide)]
theorem zH_j : ∀ b b2 : Bool, zcH (iI (-10)) (zB b) (zB b2) = (b && b2) ∧ zmH (iI (-21)) (zB b) (zB b2) = (b && b2) ∧ zcH (iI (-11)) (zB b) (zB b2) = (b || b2) ∧ zmH (iI (-22)) (zB b) (zB b2) = (b || b2) := by decide +kernel
theorem zB_n1 : ∀ b : Bool, (1 : Int32) - zB b = zB (!b) := by decide
def eqv (H : Nat) (B A : List Int) : Prop := ∀ (f : Nat → Int32) (st : List Int32), st.length + H ≤ 16 → ∃ b : Bool, zcL f B st = zB b :: st ∧ zmL f A st = some (zB b :: st)
def eqt (H : Nat) (B A : List Int) : Prop := ∀ (f : Nat → Int32) (st : List Int32) (b : Bool), st.length + H ≤ 16 → ∃ b2 : Bool, zcL f B (zB b :: st) = zB b2 :: st ∧ zmL f A (zB b :: st) = some (zB b2 :: st)
theorem eqv_m {H H2 : Nat} {B A : List Int} (h : eqv H B A) (l : H ≤ H2) : eqv H2 B A := fun f st q => h f st (by omega)
theorem eqt_m {H H2 : Nat} {B A : List Int} (h : eqt H B A) (l : H ≤ H2) : eqt H2 B A := fun f st b q => h f st b (by omega)
theorem eqt_0 {H : Nat} : eqt H [] [] := fun _ _ b _ => ⟨b, rfl, rfl⟩
theorem eqv_t {H : Nat} {B A B2 A2 : List Int} (h : eqv H B A) (h2 : eqt H B2 A2) : eqv H (B ++ B2) (A ++ A2) := fun f st q => by
  obtain ⟨b, e1, e2⟩ := h f st q
  obtain ⟨b2, e3, e4⟩ := h2 f st b q
  refine ⟨b2, by rw [zcL_a, e1, e3], ?_⟩
  rw [zmL_a, e2]
  exact e4
theorem eqt_t {H : Nat} {B A B2 A2 : List Int} (h : eqt H B A) (h2 : eqt H B2 A2) : eqt H (B ++ B2) (A ++ A2) := fun f st b q => by
  obtain ⟨b1, e1, e2⟩ := h f st b q
  obtain ⟨b2, e3, e4⟩ := h2 f st b1 q
  refine ⟨b2, by rw [zcL_a, e1, e3], ?_⟩
  rw [zmL_a, e2]
  exact e4
theorem eqv_p {u g v : Int} (hu : -5 ≤ u ∧ u ≤ 9999) (hv : -5 ≤ v ∧ v ≤ 9999) (hg : -8 ≤ g ∧ g ≤ -6) : eqv 2 [u, v, g] [u, v, g - 5] := fun f st q => by
  refine ⟨zcH (iI g) (aVl f u) (aVl f v), ?_, ?_⟩
  · show zcS f (iI g) (zcS f (iI v) (zcS f (iI u) st)) = _
    rw [zcS_v hu (by omega), zcS_v hv (by rw [List.length_cons]; omega), zcS_g (Or.inl hg)]
  · show (zmS f (iI u) st).bind (fun s1 => (zmS f (iI v) s1).bind (fun s2 => (zmS f (iI (g - 5)) s2).bind (zmL f []))) = _
    rw [zmS_v hu]
    show (zmS f (iI v) (aVl f u :: st)).bind (fun s2 => (zmS f (iI (g - 5)) s2).bind (zmL f [])) = _
    rw [zmS_v hv]
    show (zmS f (iI (g - 5)) (aVl f v :: aVl f u :: st)).bind (zmL f []) = _
    rw [zmS_g (by omega) (by omega), zH_g hg]
    rfl
theorem eqt_and {H : Nat} {B A : List Int} (h : eqv H B A) : eqt (H + 1) (B ++ [-10]) (A ++ [-21]) := fun f st b q => by
  obtain ⟨b2, e1, e2⟩ := h f (zB b :: st) (by rw [List.length_cons]; omega)
  refine ⟨b && b2, ?_, ?_⟩
  · rw [zcL_a, e1]
    show zcS f (iI (-10)) (zB b2 :: zB b :: st) = zB (b && b2) :: st
    rw [zcS_g (Or.inr (by decide)), (zH_j b b2).1]
  · rw [zmL_a, e2]
    show (zmS f (iI (-21)) (zB b2 :: zB b :: st)).bind (zmL f []) = some (zB (b && b2) :: st)
    rw [zmS_g (by decide) (by decide), (zH_j b b2).2.1]
    rfl
theorem eqt_or {H : Nat} {B A : List Int} (h : eqv H B A) : eqt (H + 1) (B ++ [-11]) (A ++ [-22]) := fun f st b q => by
  obtain ⟨b2, e1, e2⟩ := h f (zB b :: st) (by rw [List.length_cons]; omega)
  refine ⟨b || b2, ?_, ?_⟩
  · rw [zcL_a, e1]
    show zcS f (iI (-11)) (zB b2 :: zB b :: st) = zB (b || b2) :: st
    rw [zcS_g (Or.inr (by decide)), (zH_j b b2).2.2.1]
  · rw [zmL_a, e2]
    show (zmS f (iI (-22)) (zB b2 :: zB b :: st)).bind (zmL f []) = some (zB (b || b2) :: st)
    rw [zmS_g (by decide) (by decide), (zH_j b b2).2.2.2]
    rfl
def nR : Nat → List Int → List Int
  | 0, R => R
  | k + 1, R => nR k (-9 :: R)
def oD : Nat → Bool
  | 0 => false
  | k + 1 => !oD k
theorem nR_l : ∀ (k : Nat) (R : List Int), (nR k R).length = k + R.length
  | 0, R => (Nat.zero_add _).symm
  | k + 1, R => by
    show (nR k (-9 :: R)).length = _
    rw [nR_l k, List.length_cons]; omega
theorem nR_p : ∀ (k : Nat) (R : List Int), pW (-9) (nR k R) = nR k (pW (-9) R) ∧ dW (-9) (nR k R) = dW (-9) R
  | 0, _ => ⟨rfl, rfl⟩
  | k + 1, R => by
    have ih := nR_p k (-9 :: R)
    exact ⟨ih.1.trans rfl, ih.2.trans rfl⟩
theorem nR_z {P : Int → Prop} (h9 : P (-9)) : ∀ (k : Nat) (R : List Int), (∀ u, u ∈ R → P u) → ∀ u, u ∈ nR k R → P u
  | 0, _, h => h
  | k + 1, R, h => nR_z h9 k (-9 :: R) (fun u hu => by
    rcases List.mem_cons.mp hu with e | e
    · rw [e]; exact h9
    · exact h u e)
theorem nR_c {f : Nat → Int32} {st : List Int32} : ∀ (k : Nat) (R : List Int) (b : Bool), zcL f (nR k R) (zB b :: st) = zcL f R (zB (bif oD k then !b else b) :: st)
  | 0, _, _ => rfl
  | k + 1, R, b => by
    show zcL f (nR k (-9 :: R)) _ = _
    rw [nR_c k (-9 :: R) b]
    show zcL f R (zcS f (iI (-9)) (zB (bif oD k then !b else b) :: st)) = zcL f R (zB (bif !oD k then !b else b) :: st)
    rw [zcS_n, zB_n1]
    congr 2
    cases oD k <;> cases b <;> rfl
theorem eqt_n {H k : Nat} : eqt H (nR k []) (bif oD k then [-20] else []) := fun f st b _ => by
  refine ⟨bif oD k then !b else b, nR_c k [] b, ?_⟩
  cases oD k
  · rfl
  · show (zmS f (iI (-20)) _).bind (zmL f []) = _
    rw [zmS_n, zB_n1]
    rfl
def tp (j : Int) : List Int → Prop
  | [] => True
  | u :: _ => u < j
theorem tp_0 {j : Int} : ∀ {R : List Int}, tp j R → pW j R = [] ∧ dW j R = R
  | [], _ => ⟨rfl, rfl⟩
  | u :: R, h => by
    have h : u < j := h
    unfold pW dW
    rw [if_neg (by omega), if_neg (by omega)]
    exact ⟨rfl, rfl⟩
theorem tp_m {j j2 : Int} (hj : j ≤ j2) : ∀ {R : List Int}, tp j R → tp j2 R
  | [], _ => trivial
  | u :: R, h => by
    have h : u < j := h
    show u < j2
    omega
theorem dW_t {j : Int} : ∀ {R : List Int}, tp j (dW j R)
  | [] => trivial
  | u :: R => by
    unfold dW
    split
    · exact dW_t
    · show u < j
      omega
theorem pW_2 {j j1 : Int} (hj : j ≤ j1) : ∀ (R : List Int), pW j R = pW j1 R ++ pW j (dW j1 R) ∧ dW j R = dW j (dW j1 R)
  | [] => ⟨rfl, rfl⟩
  | u :: R => by
    have ih := pW_2 hj R
    by_cases q : j1 ≤ u
    · have e1 : pW j1 (u :: R) = u :: pW j1 R := if_pos q
      have e2 : dW j1 (u :: R) = dW j1 R := if_pos q
      have e3 : pW j (u :: R) = u :: pW j R := if_pos (by omega)
      have e4 : dW j (u :: R) = dW j R := if_pos (by omega)
      rw [e1, e2, e3, e4]
      exact ⟨congrArg (List.cons u) ih.1, ih.2⟩
    · have e1 : pW j1 (u :: R) = [] := if_neg q
      have e2 : dW j1 (u :: R) = u :: R := if_neg q
      rw [e1, e2]
      exact ⟨rfl, rfl⟩
theorem pW_j {j : Int} {R : List Int} : pW j (j :: R) = j :: pW j R ∧ dW j (j :: R) = dW j R := ⟨if_pos (Int.le_refl _), if_pos (Int.le_refl _)⟩
theorem dW_z {j : Int} {P : Int → Prop} : ∀ {R : List Int}, (∀ u, u ∈ R → P u) → ∀ u, u ∈ dW j R → P u
  | [], h => h
  | v :: R, h => by
    unfold dW
    split
    · exact dW_z (fun u hu => h u (List.mem_cons.mpr (Or.inr hu)))
    · exact h
