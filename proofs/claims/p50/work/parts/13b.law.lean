theorem ygw {args : Array Value} {s : State} (hts : ∀ w ∈ lw_tbl, w.before args s = true) : ∀ w ∈ zGW, w.before args s = true := fun w h => hts w (List.mem_filter.mp h).1
theorem yArrT {args : Array Value} {s : State} {t : FieldType} (h : (Cond.arrayClass t).before args s = true) : ∃ c, s.vm.findClass ("[" ++ t.toString) = some c ∧ ArrOfT s c t := by
  obtain ⟨c0, k0, comp, h1, h2, h3⟩ := Cond.arrayClass_spec h
  exact ⟨c0, h1, fun n z => ⟨fun k h => (by cases h), k0, h2, comp, h3⟩⟩
theorem yArrO {args : Array Value} {s : State} {t : FieldType} (h : (Cond.arrayOver (.array t)).before args s = true) : ∃ c, s.vm.findClass ("[" ++ (FieldType.array t).toString) = some c ∧ ArrOfT s c (.array t) ∧ va_Nw (.arrayOver (.array t)) s := by
  obtain ⟨comp, c0, k0, h1, h2, h3, h4⟩ := Cond.arrayOver_specA h
  refine ⟨c0, h4, fun n z => ⟨fun k h => (by cases h), k0, h2, comp, h3⟩, ?_⟩
  unfold va_Nw
  unfold Cond.before Cond.holds at h ⊢
  simp only [Cond.value] at h ⊢
  exact h
theorem yNI_no : ∀ k, k < 98 → 0 < zNI k → k ≠ 90 ∧ k ≠ 95 ∧ k ≠ 96 := by decide +kernel
def yEa (b z : Nat) (aK aV : Nat → Nat) (g k : Nat) : Nat := if k = 90 then b else if k = 95 then aK g else if k = 96 then aV g else z + yAdr g k
def yEc (c1 c2 c3 c4 : ClassId) (t : Nat) : ClassId := match t with
  | 1 => c1
  | 2 => c2
  | 3 => c3
  | _ => c4
theorem ys_env {s : State} {b : Nat} (hts : ∀ w ∈ lw_tbl, w.before #[Value.ref b] s = true) (hgv : zGV.before #[Value.ref b] s = true) : ∃ E : zEn, (∀ g k, g < zNI k → E.1 g k = s.heap.size + yAdr g k) ∧ E.1 0 90 = b ∧ yK E s ∧ zK E s ∧ zTx E (fun q => s.heap.size ≤ q) s s.heap := by
  have hgw := ygw hts
  have hfl := flat_of_before zGV hgv
  have hA : ∀ a : Nat, a < s.heap.size → ¬ (fun q : Nat => s.heap.size ≤ q) a := fun a ha => Nat.not_le.mpr ha
  have hcl : ∀ c : Nat, ∃ q : ClassId × (Nat → Nat), c < 13 → u_Kn s (zcn c) (zTX c) (zNF c) q.1 q.2 := by
    intro c
    by_cases hc : c < 13
    · obtain ⟨cC, iS, h⟩ := u_known hgw (zlay_all hc) (hgw _ (zw_in c hc).1)
      exact ⟨(cC, iS), fun _ => h⟩
    · exact ⟨(0, fun _ => 0), fun h => absurd h hc⟩
  obtain ⟨D, hD⟩ := Classical.axiomOfChoice hcl
  obtain ⟨c1, f1, g1⟩ := yArrT (hgw _ yw_arr.1)
  obtain ⟨c2, f2, g2⟩ := yArrT (hgw _ yw_arr.2)
  obtain ⟨c3, f3, g3, n3⟩ := yArrO (hts _ zw_ao.1)
  obtain ⟨c4, f4, g4, n4⟩ := yArrO (hts _ zw_ao.2)
  obtain ⟨aK, aV, hS, hev⟩ := vk_Sof (args := #[Value.ref b]) (s := s) (N := 18) (tm := ztm) (len := zSL.map List.length) (byt := zSL) (A := fun q => s.heap.size ≤ q) (fun i hi => (zw_str i hi).2.2.2.2.2.2) (fun i hi => hfl _ (List.mem_of_getElem? (zw_str i hi).1)) (fun i hi => hfl _ (List.mem_of_getElem? (zw_str i hi).2.1)) (fun i hi => hfl _ (List.mem_of_getElem? (zw_str i hi).2.2.1)) (fun i hi => hfl _ (List.mem_of_getElem? (zw_str i hi).2.2.2.1)) (fun i hi j hj => hfl _ (List.mem_of_getElem? ((zw_str i hi).2.2.2.2.1 j hj)))
    (fun i j hi hj hij => by
      rcases Nat.lt_or_ge i j with h | h
      · exact Or.inl (hfl _ (List.mem_of_getElem? ((zw_str j hj).2.2.2.2.2.1 i h)))
      · exact Or.inr (hfl _ (List.mem_of_getElem? ((zw_str i hi).2.2.2.2.2.1 j (by omega))))) hA
  have hz1 : va_Z "java/lang/String" "COMPACT_STRINGS" "Z" (.int 1) (fun q => s.heap.size ≤ q) s s.heap := va_Zof (hts _ zw_cs.1) (hts _ zw_cs.2.1) (va_eqi (hfl _ zw_cs.2.2)) hA
  have hz2 : ∃ v : Value, va_Z "jdk/internal/util/Preconditions" "SIOOBE_FORMATTER" "Ljava/util/function/BiFunction;" v (fun q => s.heap.size ≤ q) s s.heap ∧ v.category = 1 := by
    rcases va_Zqof (hts _ zw_sf.1) (hts _ zw_sf.2.1) (hfl _ zw_sf.2.2) hA with h | ⟨t, h⟩
    · exact ⟨_, h, rfl⟩
    · exact ⟨_, h, rfl⟩
  obtain ⟨v, hv, hcat⟩ := hz2
  have hcls : ∀ (c : Nat) (q : vw_C), zCl[c]? = some q → u_Kn s q.1 q.2.1 q.2.2 (D c).1 (D c).2 := by
    intro c q hq
    have hlen : zCl.length = 13 := by decide +kernel
    have hc : c < 13 := by rw [← hlen]; exact (List.getElem?_eq_some_iff.mp hq).1
    rw [zCl_at hc] at hq
    cases hq
    exact hD c hc
  refine ⟨(yEa b s.heap.size aK aV, yEc c1 c2 c3 c4, (fun c => (D c).1, fun c => (D c).2), v), ?_, rfl, ⟨hcls, ?_, ?_⟩, ⟨hcls, g1, g2, g3, g4, ?_⟩, ⟨hS, ?_, hz1, hv, hcat⟩⟩
  · intro g k hg
    obtain ⟨a1, a2, a3⟩ := yNI_no k (zNI_far hg) (by omega)
    show yEa b s.heap.size aK aV g k = _
    unfold yEa
    rw [if_neg a1, if_neg a2, if_neg a3]
  · intro t ht
    rcases ht with rfl | rfl
    · exact ⟨f1, f3, n3⟩
    · exact ⟨f2, f4, n4⟩
  · exact fun q hq => va_Nw.of rfl (hts _ (zw_yn q hq))
  · exact fun q hq => va_Nw.of rfl (hts _ (zw_zn q hq))
  · intro q hq
    obtain ⟨h1, h2⟩ := zw_si.2 q hq
    have h3 := zw_ref q.2.2 h1
    have h4 := hev q.2.2 h1
    unfold ztm at h4
    rw [h2] at h3 h4
    exact vk_R.of (hts _ (List.mem_of_getElem? h3)) h4
