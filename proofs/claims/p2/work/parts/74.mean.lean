def aVl (f : Nat → Int32) (v : Int) : Int32 := if v = -1 then f 0 else if v = -2 then f 1 else if v = -3 then f 2 else if v = -4 then f 3 else if v = -5 then f 4 else iI v
theorem zcS_v {f : Nat → Int32} {v : Int} {st : List Int32} (hv : -5 ≤ v ∧ v ≤ 9999) (hl : st.length < 16) : zcS f (iI v) st = aVl f v :: st := by
  have e5 : (iI v < -5) = (v < -5) := by rw [show (-5 : Int32) = iI (-5) by decide]; exact iI_lt (by omega) (by decide)
  have e0 : (iI v < 0) = (v < 0) := iI_lt0 (by omega)
  unfold zcS aVl
  rw [if_neg (show ¬ iI v < -5 by rw [e5]; omega), if_pos hl]
  by_cases q : v < 0
  · rw [if_pos (show iI v < 0 by rw [e0]; exact q)]
    rcases (by omega : v = -1 ∨ v = -2 ∨ v = -3 ∨ v = -4 ∨ v = -5) with rfl | rfl | rfl | rfl | rfl <;> rfl
  · rw [if_neg (show ¬ iI v < 0 by rw [e0]; exact q), if_neg (by omega), if_neg (by omega), if_neg (by omega), if_neg (by omega), if_neg (by omega)]
theorem zmS_v {f : Nat → Int32} {v : Int} {st : List Int32} (hv : -5 ≤ v ∧ v ≤ 9999) : zmS f (iI v) st = some (aVl f v :: st) := by
  have e10 : (-10 < iI v) = (-10 < v) := by rw [show (-10 : Int32) = iI (-10) by decide]; exact iI_lt (by decide) (by omega)
  unfold zmS
  rw [if_pos (show -10 < iI v by rw [e10]; omega)]
  congr 2
  by_cases q : v < 0
  · rcases (by omega : v = -1 ∨ v = -2 ∨ v = -3 ∨ v = -4 ∨ v = -5) with rfl | rfl | rfl | rfl | rfl <;> rfl
  · have em : ∀ c : Int, zrn c → c < 0 → ¬ iI v = iI c := fun c hc h0 z => by
      rw [iIm (by omega) hc] at z; omega
    unfold zmF aVl
    rw [if_neg (show ¬ iI v = -5 by rw [show (-5 : Int32) = iI (-5) by decide]; exact em (-5) (by decide) (by decide)), if_neg (show ¬ iI v = -4 by rw [show (-4 : Int32) = iI (-4) by decide]; exact em (-4) (by decide) (by decide)), if_neg (show ¬ iI v = -3 by rw [show (-3 : Int32) = iI (-3) by decide]; exact em (-3) (by decide) (by decide)), if_neg (show ¬ iI v = -2 by rw [show (-2 : Int32) = iI (-2) by decide]; exact em (-2) (by decide) (by decide)), if_neg (show ¬ iI v = -1 by rw [show (-1 : Int32) = iI (-1) by decide]; exact em (-1) (by decide) (by decide)), if_neg (by omega), if_neg (by omega), if_neg (by omega), if_neg (by omega), if_neg (by omega)]
def aCp (f : Nat → Int32) (u g v : Int) : Bool := if g = -6 then decide (aVl f u < aVl f v) else if g = -7 then decide (aVl f u = aVl f v) else decide (aVl f v < aVl f u)
