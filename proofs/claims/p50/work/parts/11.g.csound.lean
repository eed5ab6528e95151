section YS3
theorem yout (c : ClassId) (N h0 : Nat) : ∀ i, Jvm.Free.Multi.outerC c N h0 i = arrV c N (fun j => if j < i then .ref (h0 + 1 + j) else .null)
  | 0 => by
    show ({ cls := c, slots := Array.replicate N .null, vm := .none } : Cell) = _
    rw [arrV_new]
    rfl
  | i + 1 => by
    show (Jvm.Free.Multi.outerC c N h0 i).setSlot i (.ref (h0 + 1 + i)) = _
    rw [yout c N h0 i, arrV_store]
    congr 1
    funext j
    unfold updV
    by_cases h1 : j = i
    · subst h1
      rw [if_pos rfl, if_pos (Nat.lt_succ_self _)]
    · rw [if_neg h1]
      show (if j < i then Value.ref (h0 + 1 + j) else Value.null) = _
      by_cases h2 : j < i
      · rw [if_pos h2, if_pos (by omega)]
      · rw [if_neg h2, if_neg (by omega)]
theorem yarr_c {c : ClassId} {N : Nat} {f g : Nat → Value} (h : ∀ j, j < N → f j = g j) : arrV c N f = arrV c N g := by
  unfold arrV
  congr 1
  apply Array.ext
  · simp
  · intro i h1 h2
    simp at h1
    simp [h i h1]
variable {p : Program} {l : Launch} {e : Env} {R : Room} {s : State} {m : MethodId} {args : Array Value} {below : List Frame} {meth : Method} {c : Code} {Q : State → Prop} {E : zEn} {z nL d j this : Nat} {b : ByteArray} {C : Nat → Nat → List yC → Option (List yC)} {K : yKt} {r : List yC}
theorem yty_s (t : Nat) : yty t = .int ∨ yty t = .long := by
  unfold yty
  cases Nat.beq t 1
  · exact Or.inr rfl
  · exact Or.inl rfl
theorem ys_multi (hx : yCx p R s m args meth c E z nL d j b) (ih : yIH p l e R s m args below meth c Q E z nL this K r) {pc i t : Nat} {n k : Int32} {l1 st hs cs ss} (hd : decode b pc = .ok (.multianewarray i 2, 4)) (hq : (j, i, t) ∈ yMA) (hn : 0 ≤ n) (hk : 0 ≤ k) (hb1 : n.toNatClampNeg ≤ 1000) (hb2 : k.toNatClampNeg ≤ 1000) (hc1 : cs + (1 + n.toNatClampNeg) ≤ (yLim j).1) (hc2 : ss + (n.toNatClampNeg + n.toNatClampNeg * k.toNatClampNeg) ≤ (yLim j).2)
    (h : K (pc + 4) l1 (.inr (some hs.length) :: st) (hs ++ yMN t n.toNatClampNeg k.toNatClampNeg hs.length) (cs + (1 + n.toNatClampNeg)) (ss + (n.toNatClampNeg + n.toNatClampNeg * k.toNatClampNeg)) = some r) : yX p l e R s m args below meth c Q E z nL this pc l1 (.inl k :: .inl n :: st) hs cs ss := by
  intro H locs lsA hH hS hL T hT X
  obtain ⟨hx1, hx2, hx3, hx4, hts, hK, hx7, hR, hz⟩ := hx
  obtain ⟨w1, w2⟩ := yMA_ok _ hq
  dsimp only at w1 w2
  obtain ⟨f1, f2, f3⟩ := hK.2.1 t w2
  have harr : (Cond.arrayClass (yty t)).before args s = true := by
    rcases yty_s t with q | q <;> rw [q]
    · exact hts _ yw_arr.1
    · exact hts _ yw_arr.2
  have hcb : componentBytes (yty t) ≤ 8 := by rcases yty_s t with q | q <;> rw [q] <;> decide
  have hover : (Cond.arrayOver (.array (yty t))).before args s = true := by
    unfold va_Nw at f3
    unfold Cond.before Cond.holds at f3 ⊢
    simp only [Cond.value] at f3 ⊢
    exact f3
  have hm : k.toNatClampNeg * componentBytes (yty t) ≤ 1000 * 8 := Nat.mul_le_mul hb2 hcb
  obtain ⟨vm₁, cA, comp, hW, hfA, hfC, hO, hI, X1, step⟩ := X.multianewarray2F hx1 (ty := yty t) hx4 (hts _ w1) hover harr (g := F0 m pc lsA (.int k :: .int n :: st.map (yv z))) rfl (by rw [hx2]; exact hd) (n := n) (k := k) (rest := st.map (yv z)) rfl (Int32.not_lt.mpr hn) (Int32.not_lt.mpr hk) (by omega) (by omega) (by omega) (by rcases yty_s t with q | q <;> rw [q] <;> rfl) (by rcases yty_s t with q | q <;> rw [q] <;> rfl) (by omega) (by omega)
  have hcA : cA = E.2.1 (t + 2) := Option.some.inj (hfA.symm.trans f2)
  have hcomp : comp = E.2.1 t := Option.some.inj (hfC.symm.trans f1)
  subst hcA; subst hcomp
  have hTs : T.heap.size = z + hs.length := by rw [hT]; exact hH.1
  generalize hN : n.toNatClampNeg = N at *
  generalize hM : k.toNatClampNeg = M at *
  obtain ⟨g1, g2, -, -⟩ := Jvm.Free.Multi.fill_facts (T.setVm vm₁) (E.2.1 (t + 2)) (E.2.1 t) N M (defaultValue (yty t)) N
  have g3 : ∀ a, a < T.heap.size → (Jvm.Free.Multi.fill (T.setVm vm₁) (E.2.1 (t + 2)) (E.2.1 t) N M (defaultValue (yty t)) N).heap[a]? = T.heap[a]? := fun a ha => Jvm.Free.Multi.fill_old (T.setVm vm₁) (E.2.1 (t + 2)) (E.2.1 t) N M (defaultValue (yty t)) ha N
  have g4 : ∀ q, q < N → (Jvm.Free.Multi.fill (T.setVm vm₁) (E.2.1 (t + 2)) (E.2.1 t) N M (defaultValue (yty t)) N).heap[T.heap.size + 1 + q]? = some (Jvm.Free.Multi.innerC (E.2.1 t) M (defaultValue (yty t))) := fun q hq => Jvm.Free.Multi.fill_inner (T.setVm vm₁) (E.2.1 (t + 2)) (E.2.1 t) N M (defaultValue (yty t)) N q hq
  have g1 : (Jvm.Free.Multi.fill (T.setVm vm₁) (E.2.1 (t + 2)) (E.2.1 t) N M (defaultValue (yty t)) N).heap.size = T.heap.size + 1 + N := g1
  have g2 : (Jvm.Free.Multi.fill (T.setVm vm₁) (E.2.1 (t + 2)) (E.2.1 t) N M (defaultValue (yty t)) N).heap[T.heap.size]? = some (Jvm.Free.Multi.outerC (E.2.1 (t + 2)) N T.heap.size N) := g2
  generalize hF : Jvm.Free.Multi.fill (T.setVm vm₁) (E.2.1 (t + 2)) (E.2.1 t) N M (defaultValue (yty t)) N = F at *
  have hRp : yRp E z (hs ++ yMN t N M hs.length) F.heap := by
    refine ⟨?_, fun x q hx => ?_⟩
    · rw [g1, hTs, List.length_append]
      show _ = z + (hs.length + (List.replicate N _).length.succ)
      rw [List.length_replicate]
      omega
    · rcases Nat.lt_or_ge x hs.length with hi | hi
      · rw [List.getElem?_append_left hi] at hx
        exact (hH.2 x q hx).kept (by rw [g3 _ (by omega), hT])
      · rw [List.getElem?_append_right hi] at hx
        rcases Nat.lt_or_ge 0 (x - hs.length) with h0 | h0
        · obtain ⟨y, hy⟩ : ∃ y, x - hs.length = y + 1 := ⟨x - hs.length - 1, by omega⟩
          rw [hy] at hx
          have hx : (List.replicate N ((t, M, [], fun _ => 0) : yC))[y]? = some q := hx
          rw [List.getElem?_replicate] at hx
          split at hx
          · rename_i hyN
            cases hx
            have := g4 y hyN
            rw [hTs] at this
            rw [show z + x = z + hs.length + 1 + y by omega]
            rcases w2 with rfl | rfl
            · show F.heap[_]? = _
              rw [this]
              show some ({ cls := E.2.1 1, slots := Array.replicate M (defaultValue (yty 1)), vm := .none } : Cell) = _
              rw [arrV_new]
              rfl
            · show F.heap[_]? = _
              rw [this]
              show some ({ cls := E.2.1 2, slots := Array.replicate M (defaultValue (yty 2)), vm := .none } : Cell) = _
              rw [arrV_new]
              rfl
          · cases hx
        · have hy : x - hs.length = 0 := by omega
          rw [hy] at hx
          cases hx
          have hz2 : z + x = T.heap.size := by omega
          rw [hz2]
          have key : F.heap[T.heap.size]? = some (arrV (E.2.1 (t + 2)) N fun q => yv z (((List.range N).map (fun q => (Sum.inr (some (hs.length + 1 + q)) : yW))).getD q (.inl 0))) := by
            rw [g2, yout]
            congr 1
            refine yarr_c fun q hq => ?_
            rw [if_pos hq, List.getD_eq_getElem?_getD, List.getElem?_map, List.getElem?_range hq]
            show Value.ref (T.heap.size + 1 + q) = Value.ref (z + (hs.length + 1 + q))
            rw [hTs, show z + hs.length + 1 + q = z + (hs.length + 1 + q) by omega]
          rcases w2 with rfl | rfl
          · exact key
          · exact key
  have hW2 := ih _ _ _ _ _ _ h F.heap locs lsA hRp (hS.grow (by rw [g1, hT]; omega) (fun x hx => by rw [g3 x (by rw [hT]; exact hx), hT])) hL
  obtain ⟨t2, a1, b1⟩ := hW2 F rfl (by rw [show cs + (1 + N) = cs + 1 + N by omega, show ss + (N + N * M) = ss + N + N * M by omega]; exact X1)
  refine ⟨t2, step t2 ?_, b1⟩
  rw [hTs]
  exact a1
end YS3
