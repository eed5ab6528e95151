theorem zCl2_of {B : Nat → Bool} (h1 : ∀ k, k < 98 → B k = true → (zED.getD k []).all (fun x => match x with | none => true | some (_, k2) => B k2) = true) (h2 : ∀ k, k < 98 → B k = true → (zkd k).1 = 3 ∨ (zkd k).1 = 4 → B (k + 1) = true) (h3 : B 95 = true ∧ B 96 = true ∧ B 99 = true) : zCl2 B := by
  refine ⟨fun k j go k2 hk hz => ?_, fun k t n hk hd ht => ?_, h3.1, h3.2.1, h3.2.2⟩
  · rcases Nat.lt_or_ge k 98 with q | q
    · unfold zed at hz
      rw [List.getD_eq_getElem?_getD] at hz
      cases hx : (zED.getD k [])[j]? with
      | none => rw [hx] at hz; cases hz
      | some x =>
        rw [hx] at hz
        have hx' : x = some (go, k2) := hz
        have := List.all_eq_true.mp (h1 k q hk) x (List.mem_of_getElem? hx)
        subst hx'
        exact this
    · have hl : zED.length = 98 := by decide +kernel
      unfold zed at hz
      rw [List.getD_eq_getElem?_getD (l := zED), List.getElem?_eq_none (by omega)] at hz
      cases hz
  · rcases Nat.lt_or_ge k 98 with q | q
    · exact h2 k q hk (by rw [hd]; exact ht)
    · rw [zkd_far q] at hd
      cases hd
      omega
def zBc (k : Nat) : Bool := Nat.blt k 60 || Nat.ble 95 k
def zBm (k : Nat) : Bool := (Nat.ble 60 k && Nat.blt k 80) || Nat.ble 95 k
theorem zBc_cl : zCl2 zBc := zCl2_of (by decide +kernel) (by decide +kernel) (by decide +kernel)
theorem zBm_cl : zCl2 zBm := zCl2_of (by decide +kernel) (by decide +kernel) (by decide +kernel)
def zsm (B : Nat → Bool) (σ τ : zM) : Prop := ∀ g k i, B k = false → τ.1 g k i = σ.1 g k i ∧ τ.2 g k i = σ.2 g k i
theorem zsm_SB (B : Nat → Bool) (σ : zM) : zSk B (zsm B σ) := by
  refine ⟨fun τ g k i v hk h => ?_, fun τ g k i v hk h => ?_, fun τ g k sp g2 k2 dp n hk h => ?_⟩
  · exact fun g' k' i' hk' => ⟨(if_neg fun z => by rw [z.2.1, hk] at hk'; cases hk').trans (h g' k' i' hk').1, (h g' k' i' hk').2⟩
  · exact fun g' k' i' hk' => ⟨(h g' k' i' hk').1, (if_neg fun z => by rw [z.2.1, hk] at hk'; cases hk').trans (h g' k' i' hk').2⟩
  · exact fun g' k' i' hk' => ⟨(if_neg fun z => by rw [z.2.1, hk] at hk'; cases hk').trans (h g' k' i' hk').1, (h g' k' i' hk').2⟩
theorem zev_sm {B : Nat → Bool} (hB : zCl2 B) {d j : Nat} {as : List zV} {σ : zM} {r} (h : zev d j as σ = some r) (ha : zAl B as) : zsm B σ r.2.2 :=
  zev_fr hB (zsm_SB B σ) d j as σ r h ha (fun _ _ _ _ => ⟨rfl, rfl⟩)
