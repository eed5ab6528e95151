def zcL (f : Nat → Int32) : List Int → List Int32 → List Int32
  | [], st => st
  | c :: L, st => zcL f L (zcS f (iI c) st)
theorem zcR_L {f code : Nat → Int32} : ∀ (L : List Int) (k : Nat) (st : List Int32), (∀ i, i < L.length → code (k + i) = iI (L.getD i 0)) → zcR f code L.length k st = zcL f L st
  | [], _, _, _ => rfl
  | c :: L, k, st, h => by
    have h0 : code k = iI c := h 0 (Nat.succ_pos _)
    show zcR f code L.length (k + 1) (zcS f (code k) st) = zcL f L (zcS f (iI c) st)
    rw [h0]
    refine zcR_L L (k + 1) _ fun i hi => ?_
    have := h (i + 1) (Nat.succ_lt_succ hi)
    rw [show k + (i + 1) = k + 1 + i by omega] at this
    exact this
theorem zcL_a {f : Nat → Int32} : ∀ (A B : List Int) (st : List Int32), zcL f (A ++ B) st = zcL f B (zcL f A st)
  | [], _, _ => rfl
  | a :: A, B, st => zcL_a A B (zcS f (iI a) st)
def zmL (f : Nat → Int32) : List Int → List Int32 → Option (List Int32)
  | [], st => some st
  | c :: L, st => (zmS f (iI c) st).bind (zmL f L)
theorem zmR_L {f code : Nat → Int32} : ∀ (L : List Int) (k : Nat) (st : List Int32), (∀ i, i < L.length → code (k + i) = iI (L.getD i 0)) → zmR f code L.length k st = zmL f L st
  | [], _, _, _ => rfl
  | c :: L, k, st, h => by
    have h0 : code k = iI c := h 0 (Nat.succ_pos _)
    show (zmS f (code k) st).bind (zmR f code L.length (k + 1)) = (zmS f (iI c) st).bind (zmL f L)
    rw [h0]
    congr 1
    funext st2
    refine zmR_L L (k + 1) _ fun i hi => ?_
    have := h (i + 1) (Nat.succ_lt_succ hi)
    rw [show k + (i + 1) = k + 1 + i by omega] at this
    exact this
theorem zmL_a {f : Nat → Int32} : ∀ (A B : List Int) (st : List Int32), zmL f (A ++ B) st = (zmL f A st).bind (zmL f B)
  | [], _, _ => rfl
  | a :: A, B, st => by
    show (zmS f (iI a) st).bind (zmL f (A ++ B)) = ((zmS f (iI a) st).bind (zmL f A)).bind (zmL f B)
    cases zmS f (iI a) st with
    | none => rfl
    | some s2 => exact zmL_a A B s2
