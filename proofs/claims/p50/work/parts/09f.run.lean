theorem zokv_no {sb : Bool} {g k : Nat} (h : zokv sb (.inr (.inr (g, k)))) (hk : Nat.beq k 90 = false) : zokv false (.inr (.inr (g, k))) := by
  unfold zokv at h ⊢
  dsimp only at h ⊢
  generalize (zkd k).1 = t at h ⊢
  have key : ∀ t : Nat, (match t with | 5 => sb = true ∧ g = 0 ∧ k = 90 | 6 => g < 18 ∧ k = 95 | 7 => g < 18 ∧ k = 96 | 9 => True | _ => g < zNI k) → (match t with | 5 => false = true ∧ g = 0 ∧ k = 90 | 6 => g < 18 ∧ k = 95 | 7 => g < 18 ∧ k = 96 | 9 => True | _ => g < zNI k)
    | 0, h => h
    | 1, h => h
    | 2, h => h
    | 3, h => h
    | 4, h => h
    | 5, h => by rw [h.2.2] at hk; cases hk
    | 6, h => h
    | 7, h => h
    | 8, h => h
    | 9, h => h
    | n + 10, h => h
  exact key t h
theorem zna_s {sb : Bool} : ∀ {as : List zV}, zna as = true → (∀ v ∈ as, zokv sb v) → ∀ v ∈ as, zokv false v
  | [], _, _, v, h => by cases h
  | .inl x :: r, hn, ha, v, h => by
    rcases List.mem_cons.mp h with h | h
    · rw [h]; trivial
    · exact zna_s (as := r) hn (fun w hw => ha w (List.mem_cons_of_mem _ hw)) v h
  | .inr (.inl x) :: r, hn, ha, v, h => by
    rcases List.mem_cons.mp h with h | h
    · rw [h]; trivial
    · exact zna_s (as := r) hn (fun w hw => ha w (List.mem_cons_of_mem _ hw)) v h
  | .inr (.inr (g, k)) :: r, hn, ha, v, h => by
    have hn : (!(Nat.beq k 90) && zna r) = true := hn
    simp only [Bool.and_eq_true, Bool.not_eq_true'] at hn
    rcases List.mem_cons.mp h with h | h
    · rw [h]
      exact zokv_no (ha _ List.mem_cons_self) hn.1
    · exact zna_s (as := r) hn.2 (fun w hw => ha w (List.mem_cons_of_mem _ hw)) v h
def zCok (l : Launch) (E : zEn) (d : Nat) (sc : zM → Prop) (C : zC) : Prop := (∀ j as σ r, zbi j = none → C j as σ = some r → (∀ v ∈ as, zokv false v) → ∃ q T, zME[j]? = some q ∧ zTL[j]? = some T ∧ zMt l E d q T.2.2.1 as σ r) ∧ (∀ j f, zbi j = some f → ∀ as σ r, C j as σ = some r → f as σ = some r) ∧ ∀ j as σ r, C j as σ = some r → sc σ → sc r.2.2
theorem zmi_rk {j : Nat} {T : zT} (h : zTL[j]? = some T) (hj : j < zNAC) : (zMI.getD j (0, 9)).2 = T.2.2.1 := by
  have hall : ∀ j, j < zNAC → (zMI.getD j (0, 9)).2 = (zTL.getD j (0, [], 9, 0)).2.2.1 := by decide +kernel
  rw [hall j hj, List.getD_eq_getElem?_getD, h]
  rfl
theorem zY_q {j : Nat} {q : MethodName × ByteArray × Nat × Option FieldType} (h : zME[j]? = some q) : zY j = q.1 := by
  unfold zY
  rw [List.getD_eq_getElem?_getD, h]
  rfl
theorem zcal_s {nx : Nat} {K : zKt} {ls : zL} {rest : List zV} {x : Int32 × Int64 × zM} {E : zEn} {r} : ∀ {rk : Nat}, (∃ ty, zrt rk = some ty) → zcal rk nx K ls rest x = some r → ∃ st, K nx ls st x.2.2 = some r ∧ (zrv rk x).toList ++ rest.map (zvv E) = st.map (zvv E) ∧ ∀ v ∈ st, v ∈ rest ∨ ∀ sb, zokv sb v
  | 0, _, h => ⟨rest, h, rfl, fun v hv => Or.inl hv⟩
  | 1, _, h => ⟨_, h, rfl, fun v hv => (List.mem_cons.mp hv).elim (fun e => Or.inr fun _ => e ▸ trivial) Or.inl⟩
  | 2, _, h => ⟨_, h, rfl, fun v hv => (List.mem_cons.mp hv).elim (fun e => Or.inr fun _ => e ▸ trivial) Or.inl⟩
  | 3, _, h => ⟨_, h, rfl, fun v hv => (List.mem_cons.mp hv).elim (fun e => Or.inr fun _ => e ▸ trivial) Or.inl⟩
  | 4, _, h => ⟨_, h, rfl, fun v hv => (List.mem_cons.mp hv).elim (fun e => Or.inr fun _ => e ▸ trivial) Or.inl⟩
  | 5, _, h => ⟨_, h, rfl, fun v hv => (List.mem_cons.mp hv).elim (fun e => Or.inr fun _ => e ▸ trivial) Or.inl⟩
  | n + 6, ⟨_, h⟩, _ => by cases h
section ZRN
variable {p : Program} {l : Launch} {e : Env} {R : Room} {s : State} {m : MethodId} {args : Array Value} {below : List Frame} {meth : Method} {c : Code} {cells slots : Nat} {Q : State → Prop} {E : zEn} {A : Nat → Prop} {N nL : Nat} {sb : Bool} {sc : zM → Prop} {own d rk : Nat} {b : ByteArray} {C : zC} {K : zKt} {r : Int32 × Int64 × zM}
theorem zbi_cases {j : Nat} {f} (h : zbi j = some f) : (j = zNAC ∧ f = zcopy) ∨ (j = zMAX ∧ f = zmx) ∨ (j = zMIN ∧ f = zmn) := by
  unfold zbi at h
  cases h1 : Nat.beq j zNAC with
  | true => rw [h1] at h; cases h; exact Or.inl ⟨Nat.eq_of_beq_eq_true h1, rfl⟩
  | false =>
    rw [h1] at h
    cases h2 : Nat.beq j zMAX with
    | true => rw [h2] at h; cases h; exact Or.inr (Or.inl ⟨Nat.eq_of_beq_eq_true h2, rfl⟩)
    | false =>
      rw [h2] at h
      cases h3 : Nat.beq j zMIN with
      | true => rw [h3] at h; cases h; exact Or.inr (Or.inr ⟨Nat.eq_of_beq_eq_true h3, rfl⟩)
      | false => rw [h3] at h; cases h
theorem zs_invoke {pc i : Nat} {vf : Bool} {ls : zL} {st : List zV} {σ : zM} (hx : zCx p R s m args c cells slots E A nL own b d sb sc) (hC : zCok l E d sc C) (hSC : zSC sc) (ih : zIH p l e R s m args below meth c cells slots Q E A N nL sb sc K r) (hd : decode b pc = .ok (if vf = true then .invokevirtual i else .invokestatic i, 3)) (h : zinv C own (pc + 3) i vf K ls st σ = some r) : zX p l e R s m args below meth c cells slots Q E A N nL sb sc pc ls st σ := by
  unfold zinv at h
  cases hm : zmd own i with
  | none => rw [hm] at h; cases h
  | some q0 =>
    obtain ⟨j, n, rc⟩ := q0
    rw [hm] at h
    dsimp only at h
    cases hp : zpop n st [] with
    | none => rw [hp] at h; cases h
    | some w =>
      obtain ⟨as, rest⟩ := w
      rw [hp] at h
      obtain ⟨hb, h⟩ := zcb_some h
      simp only [Bool.and_eq_true] at hb
      obtain ⟨hrc, hsz, hna, hvf⟩ := hb
      have hsz := Nat.le_of_ble_eq_true hsz
      obtain ⟨t, ht1, ht2, ht3⟩ := zpop_s hp
      rw [List.append_nil] at ht3
      have hst : st = as.reverse ++ rest := by rw [ht2, ht3, List.reverse_reverse]
      have hlen : as.length = n := by rw [ht3, List.length_reverse, ht1]
      obtain ⟨hlk, hstat, hvirt, hpar, hn0, hjn, hnac⟩ := zMok_all own _ (zma_mem hm)
      dsimp only at hlk hstat hvirt hpar hn0 hjn hnac
      cases hcall : C j as σ with
      | none => rw [hcall] at h; cases h
      | some x =>
        rw [hcall] at h
        have h : zcal (zMI.getD j (0, 9)).2 (pc + 3) K ls rest x = some r := h
        intro H locs lsA hH hsc hN hS hL hl hs
        have hsa : ∀ v ∈ as, zokv sb v := fun v hv => hs v (by rw [hst]; exact List.mem_append_left _ (List.mem_reverse.mpr hv))
        have hsr : ∀ v ∈ rest, zokv sb v := fun v hv => hs v (by rw [hst]; exact List.mem_append_right _ hv)
        have hsc' := hC.2.2 _ _ _ _ hcall hsc
        cases hbi : zbi j with
        | none =>
          obtain ⟨q, T, hq, hT, hM⟩ := hC.1 j as σ x hbi hcall (zna_s hna hsa)
          have hjlt : j < zNAC := by
            rcases Nat.lt_or_ge j zNAC with z | z
            · exact z
            · have : j = zNAC := by omega
              rw [this] at hbi
              cases hbi
          have hjl : j < 281 ∨ j = 281 := by have : zNAC = 282 := rfl; omega
          rcases hjl with hjl | hjl
          · obtain ⟨w1, w2, w3, w4, w5, w6, w7, w8, w9⟩ := zJall j q T hq hT hjl hbi
            have hrk := zmi_rk hT hjlt
            rw [hrk] at h
            obtain ⟨st2, h2, h3, h4⟩ := zcal_s (E := E) ⟨_, w8⟩ h
            have hs2 : ∀ v ∈ st2, zokv sb v := fun v hv => (h4 v hv).elim (hsr v) (fun z => z sb)
            have hYq := zY_q hq
            rw [hYq] at hlk hstat hvirt hpar
            have goal : ∀ (H1 : Heap) (locs1 : List Loc), zHp E x.2.2 H1 → H1.size = H.size → va_S A s.heap H1 locs1 → W p l e R s m args below meth c H1 locs1 cells slots Q (F0 m (pc + 3) lsA ((zrv T.2.2.1 x).toList ++ rest.map (zvv E))) := fun H1 locs1 a1 a2 a3 => by
              rw [h3]
              exact ih _ _ _ _ h2 H1 locs1 lsA a1 hsc' (a2.trans hN) a3 hL hl hs2
            cases vf with
            | false =>
              have hrc0 : rc = 0 := by
                cases rc with
                | zero => rfl
                | succ k => cases hvf
              subst hrc0
              have hlk' : Cond.methodLink (zcn own) i q.1 ∈ zGW ∨ ∃ host, (zcn own, i, q.1, host) ∈ zNest := hlk.imp id fun ⟨host, z, _⟩ => ⟨host, z⟩
              have := zm_static hx hM w1 w2 (by rw [w5]; exact w6) w9 hlk' (hstat rfl) (by rw [hpar, if_pos rfl, hlen]; rfl) hsz hL.1 hH hS hd goal
              rw [hst, List.map_append, List.map_reverse]
              exact this
            | true =>
              cases rc with
              | zero => cases hvf
              | succ ci =>
                obtain ⟨v1, v2, v3⟩ := hvirt ci rfl
                cases as with
                | nil => cases hrc
                | cons a as =>
                  rcases a with x' | x' | ⟨g, k⟩
                  · cases hrc
                  · cases hrc
                  · have hl' : Cond.methodLink (zcn own) i q.1 ∈ zGW := by
                      rcases hlk with z | ⟨_, _, z⟩
                      · exact z
                      · cases z
                    have hpar' : (parseMethodDescriptor q.1.desc).map (fun d => d.parameters.length) = some as.length := by
                      rw [hpar, if_neg (Nat.succ_ne_zero _), ← hlen]
                      rfl
                    have hrc : (match zkd k with | (0, n) => Nat.beq n ci | (6, _) => Nat.beq 16 ci | _ => false) = true := hrc
                    rcases hk : zkd k with ⟨t1, n1⟩
                    rw [hk] at hrc
                    have hrec : (∃ cellB : Cell, H[E.1 g k]? = some cellB ∧ cellB.vm.isStatics = false ∧ s.vm.findClass (zcn ci) = some cellB.cls) ∧ t1 < 9 := by
                      split at hrc
                      · rename_i n' heq
                        cases heq
                        have := Nat.eq_of_beq_eq_true hrc
                        subst this
                        exact ⟨zm_recv hx hH hk (zok_obj (hsa _ List.mem_cons_self) hk (by omega)), by omega⟩
                      · rename_i n' heq
                        cases heq
                        have := Nat.eq_of_beq_eq_true hrc
                        subst this
                        have hv := hsa _ List.mem_cons_self
                        unfold zokv at hv
                        simp only [hk] at hv
                        obtain ⟨hg, rfl⟩ := hv
                        exact ⟨zm_recvS hx hS hg, by omega⟩
                      · cases hrc
                    have := zm_virtual hx hM w1 w2 (by rw [w5]; exact w6) w9 hl' v1 v2 hpar' hsz hL.1 (zkd_ne99 hk hrec.2) hrec.1 hH hS hd goal
                    rw [hst, List.map_append, List.map_reverse, List.map_cons, List.reverse_cons, zvv_ref (zkd_ne99 hk hrec.2), List.append_assoc]
                    exact this
          · subst hjl
            have hqq : zME[281]? = some (yL_law, cL_law, 4, some .boolean) := rfl
            rw [hqq] at hq
            cases hq
            exfalso
            have hno : ∀ o, o < 19 → ∀ q ∈ zMD.getD o [], ¬ q.2.1 = 281 := by decide +kernel
            rcases Nat.lt_or_ge own 19 with ho | ho
            · exact hno own ho _ (zma_mem hm) rfl
            · obtain ⟨k, rfl⟩ : ∃ k, own = k + 19 := ⟨own - 19, by omega⟩
              exact absurd (zma_mem hm) List.not_mem_nil
        | some f =>
          have hf := hC.2.1 j f hbi as σ x hcall
          have hR := hx.room
          have hcat := Nat.le_trans (zsz_le hx.cat rest) hsz
          rcases zbi_cases hbi with ⟨rfl, rfl⟩ | ⟨rfl, rfl⟩ | ⟨rfl, rfl⟩
          · obtain ⟨hlm, hrc0, hn5⟩ := hnac rfl
            subst hrc0
            cases vf with
            | true => cases hvf
            | false =>
              unfold zcopy at hf
              split at hf
              · rename_i g k sp g2 k2 dp nn
                rcases hk : zkd k with ⟨t1, n1⟩
                rcases hk2 : zkd k2 with ⟨t2, n2⟩
                rw [hk, hk2] at hf
                split at hf
                · rename_i a1 a2 hq1 hq2
                  cases hq1
                  cases hq2
                  cases hz : (decide (0 ≤ sp) && decide (0 ≤ dp) && decide (0 ≤ nn) && Nat.ble (sp.toNatClampNeg + nn.toNatClampNeg) n1 && Nat.ble (dp.toNatClampNeg + nn.toNatClampNeg) n2) with
                  | false => rw [hz] at hf; cases hf
                  | true =>
                    rw [hz] at hf
                    cases hf
                    simp only [Bool.and_eq_true, decide_eq_true_eq] at hz
                    obtain ⟨⟨⟨⟨z1, z2⟩, z3⟩, z4⟩, z5⟩ := hz
                    have hg := zok_obj (hsa _ List.mem_cons_self) hk (by omega)
                    have hg2 := zok_obj (hsa _ (List.mem_cons_of_mem _ (List.mem_cons_of_mem _ List.mem_cons_self))) hk2 (by omega)
                    rw [hst]
                    show W p l e R s m args below meth c H locs cells slots Q (F0 m pc lsA (.int nn :: .int dp :: zvv E (.inr (.inr (g2, k2))) :: .int sp :: zvv E (.inr (.inr (g, k))) :: rest.map (zvv E)))
                    rw [zvv_ref (zkd_ne99 hk (by omega)), zvv_ref (zkd_ne99 hk2 (by omega))]
                    exact zm_copy hx hk hk2 hg hg2 (Int32.not_lt.mpr z1) (Int32.not_lt.mpr z2) (Int32.not_lt.mpr z3) (Nat.le_of_ble_eq_true z4) (Nat.le_of_ble_eq_true z5) hlm hsz hL.1 hH hS hd fun H1 locs1 a1 a2 a3 => ih _ _ _ _ h H1 locs1 lsA a1 hsc' (a2.trans hN) a3 hL hl hsr
                · cases hf
              · cases hf
          · have hY : zY zMAX = Lib.Math.max.name := by decide +kernel
            cases vf with
            | true =>
              cases rc with
              | zero => cases hvf
              | succ ci => exact absurd (hvirt ci rfl).1 (by
                  intro _
                  have hno : ∀ o, o < 19 → ∀ q ∈ zMD.getD o [], q.2.1 = zMAX → q.2.2.2 = 0 := by decide +kernel
                  rcases Nat.lt_or_ge own 19 with ho | ho
                  · exact absurd (hno own ho _ (zma_mem hm) rfl) (Nat.succ_ne_zero _)
                  · obtain ⟨k, rfl⟩ : ∃ k, own = k + 19 := ⟨own - 19, by omega⟩
                    exact absurd (zma_mem hm) List.not_mem_nil)
            | false =>
              have hrc0 : rc = 0 := by
                cases rc with
                | zero => rfl
                | succ k => cases hvf
              subst hrc0
              unfold zmx at hf
              split at hf
              · cases hf
                rw [hst]
                rw [hY] at hlk hstat
                have hl' : Cond.methodLink (zcn own) i Lib.Math.max.name ∈ zGW := by
                  rcases hlk with z | ⟨host, z, _⟩
                  · exact z
                  · exact absurd z (by
                      have : ∀ q ∈ zNest, q.2.2.1 ≠ Lib.Math.max.name := by decide +kernel
                      intro z; exact this _ z rfl)
                exact va_mmax hx.1 hx.2.1 (by rw [hx.2.2.1]; exact hL.1.symm) hx.ow (hx.wd hl') (hx.wd zmw_max.1) (hx.wd zmw_math) (hx.wd zmw_max.2) (by omega) (Nat.le_trans (Nat.add_le_add_right hcat 13) (by omega)) hR.2.2.1 hR.2.2.2 hd (ih _ _ _ _ h H locs lsA hH hsc hN hS hL hl (zoc trivial hsr))
              · cases hf
          · have hY : zY zMIN = Lib.Math.min.name := by decide +kernel
            cases vf with
            | true =>
              cases rc with
              | zero => cases hvf
              | succ ci => exact absurd (hvirt ci rfl).1 (by
                  intro _
                  have hno : ∀ o, o < 19 → ∀ q ∈ zMD.getD o [], q.2.1 = zMIN → q.2.2.2 = 0 := by decide +kernel
                  rcases Nat.lt_or_ge own 19 with ho | ho
                  · exact absurd (hno own ho _ (zma_mem hm) rfl) (Nat.succ_ne_zero _)
                  · obtain ⟨k, rfl⟩ : ∃ k, own = k + 19 := ⟨own - 19, by omega⟩
                    exact absurd (zma_mem hm) List.not_mem_nil)
            | false =>
              have hrc0 : rc = 0 := by
                cases rc with
                | zero => rfl
                | succ k => cases hvf
              subst hrc0
              unfold zmn at hf
              split at hf
              · cases hf
                rw [hst]
                rw [hY] at hlk hstat
                have hl' : Cond.methodLink (zcn own) i Lib.Math.min.name ∈ zGW := by
                  rcases hlk with z | ⟨host, z, _⟩
                  · exact z
                  · exact absurd z (by
                      have : ∀ q ∈ zNest, q.2.2.1 ≠ Lib.Math.min.name := by decide +kernel
                      intro z; exact this _ z rfl)
                exact va_mmin hx.1 hx.2.1 (by rw [hx.2.2.1]; exact hL.1.symm) hx.ow (hx.wd hl') (hx.wd zmw_min.1) (hx.wd zmw_math) (hx.wd zmw_min.2) (by omega) (Nat.le_trans (Nat.add_le_add_right hcat 13) (by omega)) hR.2.2.1 hR.2.2.2 hd (ih _ _ _ _ h H locs lsA hH hsc hN hS hL hl (zoc trivial hsr))
              · cases hf
end ZRN
