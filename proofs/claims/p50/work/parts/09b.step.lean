section ZST
variable {p : Program} {l : Launch} {e : Env} {R : Room} {s : State} {m : MethodId} {args : Array Value} {below : List Frame} {meth : Method} {c : Code} {cells slots : Nat} {Q : State → Prop} {E : zEn} {A : Nat → Prop} {N nL : Nat} {sb : Bool} {sc : zM → Prop} {own d rk : Nat} {b : ByteArray} {C : zC} {K : zKt} {r : Int32 × Int64 × zM}
theorem zo1_s {st : List zV} {f : Int32 → List zV → zR} (h : zo1 st f = some r) : ∃ x t, st = .inl x :: t ∧ f x t = some r := by
  unfold zo1 at h; split at h
  · exact ⟨_, _, rfl, h⟩
  · cases h
theorem zo2_s {st : List zV} {f : Int32 → Int32 → List zV → zR} (h : zo2 st f = some r) : ∃ y x t, st = .inl y :: .inl x :: t ∧ f y x t = some r := by
  unfold zo2 at h; split at h
  · exact ⟨_, _, _, rfl, h⟩
  · cases h
theorem zl1_s {st : List zV} {f : Int64 → List zV → zR} (h : zl1 st f = some r) : ∃ x t, st = .inr (.inl x) :: t ∧ f x t = some r := by
  unfold zl1 at h; split at h
  · exact ⟨_, _, rfl, h⟩
  · cases h
theorem zl2_s {st : List zV} {f : Int64 → Int64 → List zV → zR} (h : zl2 st f = some r) : ∃ y x t, st = .inr (.inl y) :: .inr (.inl x) :: t ∧ f y x t = some r := by
  unfold zl2 at h; split at h
  · exact ⟨_, _, _, rfl, h⟩
  · cases h
theorem zli_s {st : List zV} {f : Int32 → Int64 → List zV → zR} (h : zli st f = some r) : ∃ y x t, st = .inl y :: .inr (.inl x) :: t ∧ f y x t = some r := by
  unfold zli at h; split at h
  · exact ⟨_, _, _, rfl, h⟩
  · cases h
theorem zr1_s {st : List zV} {f : Nat → Nat → List zV → zR} (h : zr1 st f = some r) : ∃ g k t, st = .inr (.inr (g, k)) :: t ∧ f g k t = some r := by
  unfold zr1 at h; split at h
  · exact ⟨_, _, _, rfl, h⟩
  · cases h
theorem zir_s {st : List zV} {f : Int32 → Nat → Nat → List zV → zR} (h : zir st f = some r) : ∃ i g k t, st = .inl i :: .inr (.inr (g, k)) :: t ∧ f i g k t = some r := by
  unfold zir at h; split at h
  · exact ⟨_, _, _, _, rfl, h⟩
  · cases h
theorem ziir_s {st : List zV} {f : Int32 → Int32 → Nat → Nat → List zV → zR} (h : ziir st f = some r) : ∃ v i g k t, st = .inl v :: .inl i :: .inr (.inr (g, k)) :: t ∧ f v i g k t = some r := by
  unfold ziir at h; split at h
  · exact ⟨_, _, _, _, _, rfl, h⟩
  · cases h
theorem zlir_s {st : List zV} {f : Int64 → Int32 → Nat → Nat → List zV → zR} (h : zlir st f = some r) : ∃ v i g k t, st = .inr (.inl v) :: .inl i :: .inr (.inr (g, k)) :: t ∧ f v i g k t = some r := by
  unfold zlir at h; split at h
  · exact ⟨_, _, _, _, _, rfl, h⟩
  · cases h
theorem zvI_s {v : Option zV} {f : Int32 → zR} (h : zvI v f = some r) : ∃ x, v = some (.inl x) ∧ f x = some r := by
  unfold zvI at h; split at h
  · exact ⟨_, rfl, h⟩
  · cases h
theorem zvL_s {v : Option zV} {f : Int64 → zR} (h : zvL v f = some r) : ∃ x, v = some (.inr (.inl x)) ∧ f x = some r := by
  unfold zvL at h; split at h
  · exact ⟨_, rfl, h⟩
  · cases h
theorem zvR_s {v : Option zV} {f : Nat → Nat → zR} (h : zvR v f = some r) : ∃ g k, v = some (.inr (.inr (g, k))) ∧ f g k = some r := by
  unfold zvR at h; split at h
  · exact ⟨_, _, rfl, h⟩
  · cases h
theorem zck_s {pc : Nat} {q : zE} (h : zck b own nL (pc, q) = true) : decode b pc = .ok (q.1, q.2.1 - pc) ∧ zck1 own nL pc q = true := by
  simp only [zck, Bool.and_eq_true, decide_eq_true_eq] at h
  exact h
theorem znx {pc nx n : Nat} {i : ClassFile.Instr} (hd : decode b pc = .ok (i, nx - pc)) (h : Nat.beq nx (pc + n) = true) : nx = pc + n ∧ decode b pc = .ok (i, n) := by
  have := Nat.eq_of_beq_eq_true h
  subst this
  rw [Nat.add_sub_cancel_left] at hd
  exact ⟨rfl, hd⟩
theorem zoc {v : zV} {t : List zV} (hv : zokv sb v) (ht : ∀ w ∈ t, zokv sb w) : ∀ w ∈ v :: t, zokv sb w := fun w hw => (List.mem_cons.mp hw).elim (fun q => q ▸ hv) (ht w)
theorem zot {v : zV} {t : List zV} (ht : ∀ w ∈ v :: t, zokv sb w) : ∀ w ∈ t, zokv sb w := fun w hw => ht w (List.mem_cons_of_mem _ hw)
theorem zoi (x : Int32) : zokv sb (.inl x) := trivial
theorem zol (x : Int64) : zokv sb (.inr (.inl x)) := trivial
abbrev zIH (p : Program) (l : Launch) (e : Env) (R : Room) (s : State) (m : MethodId) (args : Array Value) (below : List Frame) (meth : Method) (c : Code) (cells slots : Nat) (Q : State → Prop) (E : zEn) (A : Nat → Prop) (N nL : Nat) (sb : Bool) (sc : zM → Prop) (K : zKt) (r : Int32 × Int64 × zM) : Prop := ∀ pc ls st σ, K pc ls st σ = some r → zX p l e R s m args below meth c cells slots Q E A N nL sb sc pc ls st σ

theorem zs_iadd {pc nx tg : Nat} {cc : Int32} {dd : Int64} {sw mk} {ls : zL} {st : List zV} {σ : zM}  (hx : zCx p R s m args c cells slots E A nL own b d sb sc) (ih : zIH p l e R s m args below meth c cells slots Q E A N nL sb sc K r) (hc : zck b own nL (pc, (.iadd, nx, tg, cc, dd, sw, mk)) = true) (h : zop C own rk K ls st σ (.iadd, nx, tg, cc, dd, sw, mk) = some r) : zX p l e R s m args below meth c cells slots Q E A N nL sb sc pc ls st σ := by
  obtain ⟨hd, h1⟩ := zck_s hc
  obtain ⟨rfl, hd⟩ := znx (n := 1) hd (by simpa [zck1] using h1)
  obtain ⟨y, x, t, rfl, h⟩ := zo2_s h
  intro H locs lsA hH hsc hN hS hL hl hs
  exact lv_iadd hx.1 hx.2.1 hd (ih _ _ _ _ h H locs lsA hH hsc hN hS hL hl (zoc (zoi _) (zot (zot hs))))
theorem zs_isub {pc nx tg : Nat} {cc : Int32} {dd : Int64} {sw mk} {ls : zL} {st : List zV} {σ : zM}  (hx : zCx p R s m args c cells slots E A nL own b d sb sc) (ih : zIH p l e R s m args below meth c cells slots Q E A N nL sb sc K r) (hc : zck b own nL (pc, (.isub, nx, tg, cc, dd, sw, mk)) = true) (h : zop C own rk K ls st σ (.isub, nx, tg, cc, dd, sw, mk) = some r) : zX p l e R s m args below meth c cells slots Q E A N nL sb sc pc ls st σ := by
  obtain ⟨hd, h1⟩ := zck_s hc
  obtain ⟨rfl, hd⟩ := znx (n := 1) hd (by simpa [zck1] using h1)
  obtain ⟨y, x, t, rfl, h⟩ := zo2_s h
  intro H locs lsA hH hsc hN hS hL hl hs
  exact lv_isub hx.1 hx.2.1 hd (ih _ _ _ _ h H locs lsA hH hsc hN hS hL hl (zoc (zoi _) (zot (zot hs))))
theorem zs_imul {pc nx tg : Nat} {cc : Int32} {dd : Int64} {sw mk} {ls : zL} {st : List zV} {σ : zM}  (hx : zCx p R s m args c cells slots E A nL own b d sb sc) (ih : zIH p l e R s m args below meth c cells slots Q E A N nL sb sc K r) (hc : zck b own nL (pc, (.imul, nx, tg, cc, dd, sw, mk)) = true) (h : zop C own rk K ls st σ (.imul, nx, tg, cc, dd, sw, mk) = some r) : zX p l e R s m args below meth c cells slots Q E A N nL sb sc pc ls st σ := by
  obtain ⟨hd, h1⟩ := zck_s hc
  obtain ⟨rfl, hd⟩ := znx (n := 1) hd (by simpa [zck1] using h1)
  obtain ⟨y, x, t, rfl, h⟩ := zo2_s h
  intro H locs lsA hH hsc hN hS hL hl hs
  exact lv_imul hx.1 hx.2.1 hd (ih _ _ _ _ h H locs lsA hH hsc hN hS hL hl (zoc (zoi _) (zot (zot hs))))
theorem zs_iand {pc nx tg : Nat} {cc : Int32} {dd : Int64} {sw mk} {ls : zL} {st : List zV} {σ : zM}  (hx : zCx p R s m args c cells slots E A nL own b d sb sc) (ih : zIH p l e R s m args below meth c cells slots Q E A N nL sb sc K r) (hc : zck b own nL (pc, (.iand, nx, tg, cc, dd, sw, mk)) = true) (h : zop C own rk K ls st σ (.iand, nx, tg, cc, dd, sw, mk) = some r) : zX p l e R s m args below meth c cells slots Q E A N nL sb sc pc ls st σ := by
  obtain ⟨hd, h1⟩ := zck_s hc
  obtain ⟨rfl, hd⟩ := znx (n := 1) hd (by simpa [zck1] using h1)
  obtain ⟨y, x, t, rfl, h⟩ := zo2_s h
  intro H locs lsA hH hsc hN hS hL hl hs
  exact lv_iand hx.1 hx.2.1 hd (ih _ _ _ _ h H locs lsA hH hsc hN hS hL hl (zoc (zoi _) (zot (zot hs))))
theorem zs_ior {pc nx tg : Nat} {cc : Int32} {dd : Int64} {sw mk} {ls : zL} {st : List zV} {σ : zM}  (hx : zCx p R s m args c cells slots E A nL own b d sb sc) (ih : zIH p l e R s m args below meth c cells slots Q E A N nL sb sc K r) (hc : zck b own nL (pc, (.ior, nx, tg, cc, dd, sw, mk)) = true) (h : zop C own rk K ls st σ (.ior, nx, tg, cc, dd, sw, mk) = some r) : zX p l e R s m args below meth c cells slots Q E A N nL sb sc pc ls st σ := by
  obtain ⟨hd, h1⟩ := zck_s hc
  obtain ⟨rfl, hd⟩ := znx (n := 1) hd (by simpa [zck1] using h1)
  obtain ⟨y, x, t, rfl, h⟩ := zo2_s h
  intro H locs lsA hH hsc hN hS hL hl hs
  exact lv_ior hx.1 hx.2.1 hd (ih _ _ _ _ h H locs lsA hH hsc hN hS hL hl (zoc (zoi _) (zot (zot hs))))
theorem zs_ixor {pc nx tg : Nat} {cc : Int32} {dd : Int64} {sw mk} {ls : zL} {st : List zV} {σ : zM}  (hx : zCx p R s m args c cells slots E A nL own b d sb sc) (ih : zIH p l e R s m args below meth c cells slots Q E A N nL sb sc K r) (hc : zck b own nL (pc, (.ixor, nx, tg, cc, dd, sw, mk)) = true) (h : zop C own rk K ls st σ (.ixor, nx, tg, cc, dd, sw, mk) = some r) : zX p l e R s m args below meth c cells slots Q E A N nL sb sc pc ls st σ := by
  obtain ⟨hd, h1⟩ := zck_s hc
  obtain ⟨rfl, hd⟩ := znx (n := 1) hd (by simpa [zck1] using h1)
  obtain ⟨y, x, t, rfl, h⟩ := zo2_s h
  intro H locs lsA hH hsc hN hS hL hl hs
  exact lv_ixor hx.1 hx.2.1 hd (ih _ _ _ _ h H locs lsA hH hsc hN hS hL hl (zoc (zoi _) (zot (zot hs))))
theorem zs_ishl {pc nx tg : Nat} {cc : Int32} {dd : Int64} {sw mk} {ls : zL} {st : List zV} {σ : zM}  (hx : zCx p R s m args c cells slots E A nL own b d sb sc) (ih : zIH p l e R s m args below meth c cells slots Q E A N nL sb sc K r) (hc : zck b own nL (pc, (.ishl, nx, tg, cc, dd, sw, mk)) = true) (h : zop C own rk K ls st σ (.ishl, nx, tg, cc, dd, sw, mk) = some r) : zX p l e R s m args below meth c cells slots Q E A N nL sb sc pc ls st σ := by
  obtain ⟨hd, h1⟩ := zck_s hc
  obtain ⟨rfl, hd⟩ := znx (n := 1) hd (by simpa [zck1] using h1)
  obtain ⟨y, x, t, rfl, h⟩ := zo2_s h
  intro H locs lsA hH hsc hN hS hL hl hs
  exact lv_ishl hx.1 hx.2.1 hd (ih _ _ _ _ h H locs lsA hH hsc hN hS hL hl (zoc (zoi _) (zot (zot hs))))
theorem zs_ishr {pc nx tg : Nat} {cc : Int32} {dd : Int64} {sw mk} {ls : zL} {st : List zV} {σ : zM}  (hx : zCx p R s m args c cells slots E A nL own b d sb sc) (ih : zIH p l e R s m args below meth c cells slots Q E A N nL sb sc K r) (hc : zck b own nL (pc, (.ishr, nx, tg, cc, dd, sw, mk)) = true) (h : zop C own rk K ls st σ (.ishr, nx, tg, cc, dd, sw, mk) = some r) : zX p l e R s m args below meth c cells slots Q E A N nL sb sc pc ls st σ := by
  obtain ⟨hd, h1⟩ := zck_s hc
  obtain ⟨rfl, hd⟩ := znx (n := 1) hd (by simpa [zck1] using h1)
  obtain ⟨y, x, t, rfl, h⟩ := zo2_s h
  intro H locs lsA hH hsc hN hS hL hl hs
  exact lv_ishr hx.1 hx.2.1 hd (ih _ _ _ _ h H locs lsA hH hsc hN hS hL hl (zoc (zoi _) (zot (zot hs))))
theorem zs_iushr {pc nx tg : Nat} {cc : Int32} {dd : Int64} {sw mk} {ls : zL} {st : List zV} {σ : zM}  (hx : zCx p R s m args c cells slots E A nL own b d sb sc) (ih : zIH p l e R s m args below meth c cells slots Q E A N nL sb sc K r) (hc : zck b own nL (pc, (.iushr, nx, tg, cc, dd, sw, mk)) = true) (h : zop C own rk K ls st σ (.iushr, nx, tg, cc, dd, sw, mk) = some r) : zX p l e R s m args below meth c cells slots Q E A N nL sb sc pc ls st σ := by
  obtain ⟨hd, h1⟩ := zck_s hc
  obtain ⟨rfl, hd⟩ := znx (n := 1) hd (by simpa [zck1] using h1)
  obtain ⟨y, x, t, rfl, h⟩ := zo2_s h
  intro H locs lsA hH hsc hN hS hL hl hs
  exact lv_iushr hx.1 hx.2.1 hd rfl (ih _ _ _ _ h H locs lsA hH hsc hN hS hL hl (zoc (zoi _) (zot (zot hs))))
theorem zs_ineg {pc nx tg : Nat} {cc : Int32} {dd : Int64} {sw mk} {ls : zL} {st : List zV} {σ : zM}  (hx : zCx p R s m args c cells slots E A nL own b d sb sc) (ih : zIH p l e R s m args below meth c cells slots Q E A N nL sb sc K r) (hc : zck b own nL (pc, (.ineg, nx, tg, cc, dd, sw, mk)) = true) (h : zop C own rk K ls st σ (.ineg, nx, tg, cc, dd, sw, mk) = some r) : zX p l e R s m args below meth c cells slots Q E A N nL sb sc pc ls st σ := by
  obtain ⟨hd, h1⟩ := zck_s hc
  obtain ⟨rfl, hd⟩ := znx (n := 1) hd (by simpa [zck1] using h1)
  obtain ⟨x, t, rfl, h⟩ := zo1_s h
  intro H locs lsA hH hsc hN hS hL hl hs
  exact lv_ineg hx.1 hx.2.1 hd (ih _ _ _ _ h H locs lsA hH hsc hN hS hL hl (zoc (zoi _) (zot hs)))
theorem zs_ladd {pc nx tg : Nat} {cc : Int32} {dd : Int64} {sw mk} {ls : zL} {st : List zV} {σ : zM}  (hx : zCx p R s m args c cells slots E A nL own b d sb sc) (ih : zIH p l e R s m args below meth c cells slots Q E A N nL sb sc K r) (hc : zck b own nL (pc, (.ladd, nx, tg, cc, dd, sw, mk)) = true) (h : zop C own rk K ls st σ (.ladd, nx, tg, cc, dd, sw, mk) = some r) : zX p l e R s m args below meth c cells slots Q E A N nL sb sc pc ls st σ := by
  obtain ⟨hd, h1⟩ := zck_s hc
  obtain ⟨rfl, hd⟩ := znx (n := 1) hd (by simpa [zck1] using h1)
  obtain ⟨y, x, t, rfl, h⟩ := zl2_s h
  intro H locs lsA hH hsc hN hS hL hl hs
  exact lv_ladd hx.1 hx.2.1 hd (ih _ _ _ _ h H locs lsA hH hsc hN hS hL hl (zoc (zol _) (zot (zot hs))))
theorem zs_lmul {pc nx tg : Nat} {cc : Int32} {dd : Int64} {sw mk} {ls : zL} {st : List zV} {σ : zM}  (hx : zCx p R s m args c cells slots E A nL own b d sb sc) (ih : zIH p l e R s m args below meth c cells slots Q E A N nL sb sc K r) (hc : zck b own nL (pc, (.lmul, nx, tg, cc, dd, sw, mk)) = true) (h : zop C own rk K ls st σ (.lmul, nx, tg, cc, dd, sw, mk) = some r) : zX p l e R s m args below meth c cells slots Q E A N nL sb sc pc ls st σ := by
  obtain ⟨hd, h1⟩ := zck_s hc
  obtain ⟨rfl, hd⟩ := znx (n := 1) hd (by simpa [zck1] using h1)
  obtain ⟨y, x, t, rfl, h⟩ := zl2_s h
  intro H locs lsA hH hsc hN hS hL hl hs
  exact lv_lmul hx.1 hx.2.1 hd (ih _ _ _ _ h H locs lsA hH hsc hN hS hL hl (zoc (zol _) (zot (zot hs))))
theorem zs_land {pc nx tg : Nat} {cc : Int32} {dd : Int64} {sw mk} {ls : zL} {st : List zV} {σ : zM}  (hx : zCx p R s m args c cells slots E A nL own b d sb sc) (ih : zIH p l e R s m args below meth c cells slots Q E A N nL sb sc K r) (hc : zck b own nL (pc, (.land, nx, tg, cc, dd, sw, mk)) = true) (h : zop C own rk K ls st σ (.land, nx, tg, cc, dd, sw, mk) = some r) : zX p l e R s m args below meth c cells slots Q E A N nL sb sc pc ls st σ := by
  obtain ⟨hd, h1⟩ := zck_s hc
  obtain ⟨rfl, hd⟩ := znx (n := 1) hd (by simpa [zck1] using h1)
  obtain ⟨y, x, t, rfl, h⟩ := zl2_s h
  intro H locs lsA hH hsc hN hS hL hl hs
  exact lv_land hx.1 hx.2.1 hd (ih _ _ _ _ h H locs lsA hH hsc hN hS hL hl (zoc (zol _) (zot (zot hs))))
theorem zs_lor {pc nx tg : Nat} {cc : Int32} {dd : Int64} {sw mk} {ls : zL} {st : List zV} {σ : zM}  (hx : zCx p R s m args c cells slots E A nL own b d sb sc) (ih : zIH p l e R s m args below meth c cells slots Q E A N nL sb sc K r) (hc : zck b own nL (pc, (.lor, nx, tg, cc, dd, sw, mk)) = true) (h : zop C own rk K ls st σ (.lor, nx, tg, cc, dd, sw, mk) = some r) : zX p l e R s m args below meth c cells slots Q E A N nL sb sc pc ls st σ := by
  obtain ⟨hd, h1⟩ := zck_s hc
  obtain ⟨rfl, hd⟩ := znx (n := 1) hd (by simpa [zck1] using h1)
  obtain ⟨y, x, t, rfl, h⟩ := zl2_s h
  intro H locs lsA hH hsc hN hS hL hl hs
  exact lv_lor hx.1 hx.2.1 hd (ih _ _ _ _ h H locs lsA hH hsc hN hS hL hl (zoc (zol _) (zot (zot hs))))
theorem zs_lshl {pc nx tg : Nat} {cc : Int32} {dd : Int64} {sw mk} {ls : zL} {st : List zV} {σ : zM}  (hx : zCx p R s m args c cells slots E A nL own b d sb sc) (ih : zIH p l e R s m args below meth c cells slots Q E A N nL sb sc K r) (hc : zck b own nL (pc, (.lshl, nx, tg, cc, dd, sw, mk)) = true) (h : zop C own rk K ls st σ (.lshl, nx, tg, cc, dd, sw, mk) = some r) : zX p l e R s m args below meth c cells slots Q E A N nL sb sc pc ls st σ := by
  obtain ⟨hd, h1⟩ := zck_s hc
  obtain ⟨rfl, hd⟩ := znx (n := 1) hd (by simpa [zck1] using h1)
  obtain ⟨y, x, t, rfl, h⟩ := zli_s h
  intro H locs lsA hH hsc hN hS hL hl hs
  exact lv_lshl hx.1 hx.2.1 hd rfl (ih _ _ _ _ h H locs lsA hH hsc hN hS hL hl (zoc (zol _) (zot (zot hs))))
theorem zs_lshr {pc nx tg : Nat} {cc : Int32} {dd : Int64} {sw mk} {ls : zL} {st : List zV} {σ : zM}  (hx : zCx p R s m args c cells slots E A nL own b d sb sc) (ih : zIH p l e R s m args below meth c cells slots Q E A N nL sb sc K r) (hc : zck b own nL (pc, (.lshr, nx, tg, cc, dd, sw, mk)) = true) (h : zop C own rk K ls st σ (.lshr, nx, tg, cc, dd, sw, mk) = some r) : zX p l e R s m args below meth c cells slots Q E A N nL sb sc pc ls st σ := by
  obtain ⟨hd, h1⟩ := zck_s hc
  obtain ⟨rfl, hd⟩ := znx (n := 1) hd (by simpa [zck1] using h1)
  obtain ⟨y, x, t, rfl, h⟩ := zli_s h
  intro H locs lsA hH hsc hN hS hL hl hs
  exact lv_lshr hx.1 hx.2.1 hd rfl (ih _ _ _ _ h H locs lsA hH hsc hN hS hL hl (zoc (zol _) (zot (zot hs))))
theorem zs_lushr {pc nx tg : Nat} {cc : Int32} {dd : Int64} {sw mk} {ls : zL} {st : List zV} {σ : zM}  (hx : zCx p R s m args c cells slots E A nL own b d sb sc) (ih : zIH p l e R s m args below meth c cells slots Q E A N nL sb sc K r) (hc : zck b own nL (pc, (.lushr, nx, tg, cc, dd, sw, mk)) = true) (h : zop C own rk K ls st σ (.lushr, nx, tg, cc, dd, sw, mk) = some r) : zX p l e R s m args below meth c cells slots Q E A N nL sb sc pc ls st σ := by
  obtain ⟨hd, h1⟩ := zck_s hc
  obtain ⟨rfl, hd⟩ := znx (n := 1) hd (by simpa [zck1] using h1)
  obtain ⟨y, x, t, rfl, h⟩ := zli_s h
  intro H locs lsA hH hsc hN hS hL hl hs
  exact lv_lushr hx.1 hx.2.1 hd rfl (ih _ _ _ _ h H locs lsA hH hsc hN hS hL hl (zoc (zol _) (zot (zot hs))))
theorem zs_lcmp {pc nx tg : Nat} {cc : Int32} {dd : Int64} {sw mk} {ls : zL} {st : List zV} {σ : zM}  (hx : zCx p R s m args c cells slots E A nL own b d sb sc) (ih : zIH p l e R s m args below meth c cells slots Q E A N nL sb sc K r) (hc : zck b own nL (pc, (.lcmp, nx, tg, cc, dd, sw, mk)) = true) (h : zop C own rk K ls st σ (.lcmp, nx, tg, cc, dd, sw, mk) = some r) : zX p l e R s m args below meth c cells slots Q E A N nL sb sc pc ls st σ := by
  obtain ⟨hd, h1⟩ := zck_s hc
  obtain ⟨rfl, hd⟩ := znx (n := 1) hd (by simpa [zck1] using h1)
  obtain ⟨y, x, t, rfl, h⟩ := zl2_s h
  intro H locs lsA hH hsc hN hS hL hl hs
  exact W.lcmp hx.1 hx.2.1 hd (ih _ _ _ _ h H locs lsA hH hsc hN hS hL hl (zoc (zoi _) (zot (zot hs))))
theorem zs_i2l {pc nx tg : Nat} {cc : Int32} {dd : Int64} {sw mk} {ls : zL} {st : List zV} {σ : zM}  (hx : zCx p R s m args c cells slots E A nL own b d sb sc) (ih : zIH p l e R s m args below meth c cells slots Q E A N nL sb sc K r) (hc : zck b own nL (pc, (.i2l, nx, tg, cc, dd, sw, mk)) = true) (h : zop C own rk K ls st σ (.i2l, nx, tg, cc, dd, sw, mk) = some r) : zX p l e R s m args below meth c cells slots Q E A N nL sb sc pc ls st σ := by
  obtain ⟨hd, h1⟩ := zck_s hc
  obtain ⟨rfl, hd⟩ := znx (n := 1) hd (by simpa [zck1] using h1)
  obtain ⟨x, t, rfl, h⟩ := zo1_s h
  intro H locs lsA hH hsc hN hS hL hl hs
  exact lv_i2l hx.1 hx.2.1 hd rfl (ih _ _ _ _ h H locs lsA hH hsc hN hS hL hl (zoc (zol _) (zot hs)))
theorem zs_l2i {pc nx tg : Nat} {cc : Int32} {dd : Int64} {sw mk} {ls : zL} {st : List zV} {σ : zM}  (hx : zCx p R s m args c cells slots E A nL own b d sb sc) (ih : zIH p l e R s m args below meth c cells slots Q E A N nL sb sc K r) (hc : zck b own nL (pc, (.l2i, nx, tg, cc, dd, sw, mk)) = true) (h : zop C own rk K ls st σ (.l2i, nx, tg, cc, dd, sw, mk) = some r) : zX p l e R s m args below meth c cells slots Q E A N nL sb sc pc ls st σ := by
  obtain ⟨hd, h1⟩ := zck_s hc
  obtain ⟨rfl, hd⟩ := znx (n := 1) hd (by simpa [zck1] using h1)
  obtain ⟨x, t, rfl, h⟩ := zl1_s h
  intro H locs lsA hH hsc hN hS hL hl hs
  exact lv_l2i hx.1 hx.2.1 hd rfl (ih _ _ _ _ h H locs lsA hH hsc hN hS hL hl (zoc (zoi _) (zot hs)))
theorem zs_i2b {pc nx tg : Nat} {cc : Int32} {dd : Int64} {sw mk} {ls : zL} {st : List zV} {σ : zM}  (hx : zCx p R s m args c cells slots E A nL own b d sb sc) (ih : zIH p l e R s m args below meth c cells slots Q E A N nL sb sc K r) (hc : zck b own nL (pc, (.i2b, nx, tg, cc, dd, sw, mk)) = true) (h : zop C own rk K ls st σ (.i2b, nx, tg, cc, dd, sw, mk) = some r) : zX p l e R s m args below meth c cells slots Q E A N nL sb sc pc ls st σ := by
  obtain ⟨hd, h1⟩ := zck_s hc
  obtain ⟨rfl, hd⟩ := znx (n := 1) hd (by simpa [zck1] using h1)
  obtain ⟨x, t, rfl, h⟩ := zo1_s h
  intro H locs lsA hH hsc hN hS hL hl hs
  exact lv_i2b hx.1 hx.2.1 hd rfl (ih _ _ _ _ h H locs lsA hH hsc hN hS hL hl (zoc (zoi _) (zot hs)))
theorem zs_i2s {pc nx tg : Nat} {cc : Int32} {dd : Int64} {sw mk} {ls : zL} {st : List zV} {σ : zM}  (hx : zCx p R s m args c cells slots E A nL own b d sb sc) (ih : zIH p l e R s m args below meth c cells slots Q E A N nL sb sc K r) (hc : zck b own nL (pc, (.i2s, nx, tg, cc, dd, sw, mk)) = true) (h : zop C own rk K ls st σ (.i2s, nx, tg, cc, dd, sw, mk) = some r) : zX p l e R s m args below meth c cells slots Q E A N nL sb sc pc ls st σ := by
  obtain ⟨hd, h1⟩ := zck_s hc
  obtain ⟨rfl, hd⟩ := znx (n := 1) hd (by simpa [zck1] using h1)
  obtain ⟨x, t, rfl, h⟩ := zo1_s h
  intro H locs lsA hH hsc hN hS hL hl hs
  exact lv_i2s hx.1 hx.2.1 hd rfl (ih _ _ _ _ h H locs lsA hH hsc hN hS hL hl (zoc (zoi _) (zot hs)))
theorem zs_i2c {pc nx tg : Nat} {cc : Int32} {dd : Int64} {sw mk} {ls : zL} {st : List zV} {σ : zM}  (hx : zCx p R s m args c cells slots E A nL own b d sb sc) (ih : zIH p l e R s m args below meth c cells slots Q E A N nL sb sc K r) (hc : zck b own nL (pc, (.i2c, nx, tg, cc, dd, sw, mk)) = true) (h : zop C own rk K ls st σ (.i2c, nx, tg, cc, dd, sw, mk) = some r) : zX p l e R s m args below meth c cells slots Q E A N nL sb sc pc ls st σ := by
  obtain ⟨hd, h1⟩ := zck_s hc
  obtain ⟨rfl, hd⟩ := znx (n := 1) hd (by simpa [zck1] using h1)
  obtain ⟨x, t, rfl, h⟩ := zo1_s h
  intro H locs lsA hH hsc hN hS hL hl hs
  exact lv_i2c hx.1 hx.2.1 hd rfl (ih _ _ _ _ h H locs lsA hH hsc hN hS hL hl (zoc (zoi _) (zot hs)))
theorem zs_idiv {pc nx tg : Nat} {cc : Int32} {dd : Int64} {sw mk} {ls : zL} {st : List zV} {σ : zM} (hx : zCx p R s m args c cells slots E A nL own b d sb sc) (ih : zIH p l e R s m args below meth c cells slots Q E A N nL sb sc K r) (hc : zck b own nL (pc, (.idiv, nx, tg, cc, dd, sw, mk)) = true) (h : zop C own rk K ls st σ (.idiv, nx, tg, cc, dd, sw, mk) = some r) : zX p l e R s m args below meth c cells slots Q E A N nL sb sc pc ls st σ := by
  obtain ⟨hd, h1⟩ := zck_s hc
  obtain ⟨rfl, hd⟩ := znx (n := 1) hd (by simpa [zck1] using h1)
  obtain ⟨y, x, t, rfl, g1⟩ := zo2_s h
  by_cases hy : y = 0
  · rw [if_pos hy] at g1; cases g1
  · rw [if_neg hy] at g1
    intro H locs lsA hH hsc hN hS hL hl hs
    exact lv_idiv hx.1 hx.2.1 hd hy (ih _ _ _ _ g1 H locs lsA hH hsc hN hS hL hl (zoc (zoi _) (zot (zot hs))))
theorem zs_irem {pc nx tg : Nat} {cc : Int32} {dd : Int64} {sw mk} {ls : zL} {st : List zV} {σ : zM} (hx : zCx p R s m args c cells slots E A nL own b d sb sc) (ih : zIH p l e R s m args below meth c cells slots Q E A N nL sb sc K r) (hc : zck b own nL (pc, (.irem, nx, tg, cc, dd, sw, mk)) = true) (h : zop C own rk K ls st σ (.irem, nx, tg, cc, dd, sw, mk) = some r) : zX p l e R s m args below meth c cells slots Q E A N nL sb sc pc ls st σ := by
  obtain ⟨hd, h1⟩ := zck_s hc
  obtain ⟨rfl, hd⟩ := znx (n := 1) hd (by simpa [zck1] using h1)
  obtain ⟨y, x, t, rfl, g1⟩ := zo2_s h
  by_cases hy : y = 0
  · rw [if_pos hy] at g1; cases g1
  · rw [if_neg hy] at g1
    intro H locs lsA hH hsc hN hS hL hl hs
    exact lv_irem hx.1 hx.2.1 hd hy (ih _ _ _ _ g1 H locs lsA hH hsc hN hS hL hl (zoc (zoi _) (zot (zot hs))))
theorem zs_iconst {pc nx tg : Nat} {cc : Int32} {dd : Int64} {sw mk} {ls : zL} {st : List zV} {σ : zM} {n : Int} (hx : zCx p R s m args c cells slots E A nL own b d sb sc) (ih : zIH p l e R s m args below meth c cells slots Q E A N nL sb sc K r) (hc : zck b own nL (pc, (.iconst n, nx, tg, cc, dd, sw, mk)) = true) (h : zop C own rk K ls st σ (.iconst n, nx, tg, cc, dd, sw, mk) = some r) : zX p l e R s m args below meth c cells slots Q E A N nL sb sc pc ls st σ := by
  obtain ⟨hd, h1⟩ := zck_s hc
  simp only [zck1, Bool.and_eq_true, decide_eq_true_eq] at h1
  obtain ⟨hv, h1⟩ := h1
  obtain ⟨rfl, hd⟩ := znx (n := 1) hd h1
  intro H locs lsA hH hsc hN hS hL hl hs
  exact lv_iconst hx.1 hx.2.1 hd hv (ih _ _ _ _ h H locs lsA hH hsc hN hS hL hl (zoc trivial hs))
theorem zs_bipush {pc nx tg : Nat} {cc : Int32} {dd : Int64} {sw mk} {ls : zL} {st : List zV} {σ : zM} {n : Int} (hx : zCx p R s m args c cells slots E A nL own b d sb sc) (ih : zIH p l e R s m args below meth c cells slots Q E A N nL sb sc K r) (hc : zck b own nL (pc, (.bipush n, nx, tg, cc, dd, sw, mk)) = true) (h : zop C own rk K ls st σ (.bipush n, nx, tg, cc, dd, sw, mk) = some r) : zX p l e R s m args below meth c cells slots Q E A N nL sb sc pc ls st σ := by
  obtain ⟨hd, h1⟩ := zck_s hc
  simp only [zck1, Bool.and_eq_true, decide_eq_true_eq] at h1
  obtain ⟨hv, h1⟩ := h1
  obtain ⟨rfl, hd⟩ := znx (n := 2) hd h1
  intro H locs lsA hH hsc hN hS hL hl hs
  exact lv_bipush hx.1 hx.2.1 hd hv (ih _ _ _ _ h H locs lsA hH hsc hN hS hL hl (zoc trivial hs))
theorem zs_sipush {pc nx tg : Nat} {cc : Int32} {dd : Int64} {sw mk} {ls : zL} {st : List zV} {σ : zM} {n : Int} (hx : zCx p R s m args c cells slots E A nL own b d sb sc) (ih : zIH p l e R s m args below meth c cells slots Q E A N nL sb sc K r) (hc : zck b own nL (pc, (.sipush n, nx, tg, cc, dd, sw, mk)) = true) (h : zop C own rk K ls st σ (.sipush n, nx, tg, cc, dd, sw, mk) = some r) : zX p l e R s m args below meth c cells slots Q E A N nL sb sc pc ls st σ := by
  obtain ⟨hd, h1⟩ := zck_s hc
  simp only [zck1, Bool.and_eq_true, decide_eq_true_eq] at h1
  obtain ⟨hv, h1⟩ := h1
  obtain ⟨rfl, hd⟩ := znx (n := 3) hd h1
  intro H locs lsA hH hsc hN hS hL hl hs
  exact lv_sipush hx.1 hx.2.1 hd hv (ih _ _ _ _ h H locs lsA hH hsc hN hS hL hl (zoc trivial hs))
theorem zs_lconst {pc nx tg : Nat} {cc : Int32} {dd : Int64} {sw mk} {ls : zL} {st : List zV} {σ : zM} {n : Fin 2} (hx : zCx p R s m args c cells slots E A nL own b d sb sc) (ih : zIH p l e R s m args below meth c cells slots Q E A N nL sb sc K r) (hc : zck b own nL (pc, (.lconst n, nx, tg, cc, dd, sw, mk)) = true) (h : zop C own rk K ls st σ (.lconst n, nx, tg, cc, dd, sw, mk) = some r) : zX p l e R s m args below meth c cells slots Q E A N nL sb sc pc ls st σ := by
  obtain ⟨hd, h1⟩ := zck_s hc
  simp only [zck1, Bool.and_eq_true, decide_eq_true_eq] at h1
  obtain ⟨hv, h1⟩ := h1
  obtain ⟨rfl, hd⟩ := znx (n := 1) hd h1
  intro H locs lsA hH hsc hN hS hL hl hs
  exact lv_lconst hx.1 hx.2.1 hd hv (ih _ _ _ _ h H locs lsA hH hsc hN hS hL hl (zoc trivial hs))
theorem zkc_s {i : Nat} {v : Int32} (h : zkc own i = some v) : Cond.constant (zcn own) i v ∈ zGW := by
  unfold zkc at h
  cases hf : zKC.find? (fun q => Nat.beq q.1 own && Nat.beq q.2.1 i) with
  | none => rw [hf] at h; cases h
  | some q =>
    rw [hf] at h
    cases h
    have h2 := List.find?_some hf
    simp only [Bool.and_eq_true] at h2
    have := zKC_ok q (List.mem_of_find?_eq_some hf)
    rw [Nat.eq_of_beq_eq_true h2.1, Nat.eq_of_beq_eq_true h2.2] at this
    exact this
theorem zkl_s {i : Nat} {v : Int64} (h : zkl own i = some v) : Cond.constantLong (zcn own) i v ∈ zGW := by
  unfold zkl at h
  cases hf : zKL.find? (fun q => Nat.beq q.1 own && Nat.beq q.2.1 i) with
  | none => rw [hf] at h; cases h
  | some q =>
    rw [hf] at h
    cases h
    have h2 := List.find?_some hf
    simp only [Bool.and_eq_true] at h2
    have := zKL_ok q (List.mem_of_find?_eq_some hf)
    rw [Nat.eq_of_beq_eq_true h2.1, Nat.eq_of_beq_eq_true h2.2] at this
    exact this
theorem zCx.wd (hx : zCx p R s m args c cells slots E A nL own b d sb sc) {w : Jvm.Cond} (h : w ∈ zGW) : w.before args s = true := hx.2.2.2.2.1 w h
theorem zCx.ow (hx : zCx p R s m args c cells slots E A nL own b d sb sc) : s.vm.findClass (zcn own) = some m.cls := hx.2.2.2.1
theorem zCx.cat (hx : zCx p R s m args c cells slots E A nL own b d sb sc) : E.2.2.2.category = 1 := hx.2.2.2.2.2.2.1.2.2.2.2
theorem zCx.inj (hx : zCx p R s m args c cells slots E A nL own b d sb sc) : zIj E := hx.2.2.2.2.2.2.2.1
theorem zCx.k (hx : zCx p R s m args c cells slots E A nL own b d sb sc) : zK E s := hx.2.2.2.2.2.1
theorem zCx.tx (hx : zCx p R s m args c cells slots E A nL own b d sb sc) : zTx E A s s.heap := hx.2.2.2.2.2.2.1
theorem zCx.sub (hx : zCx p R s m args c cells slots E A nL own b d sb sc) : ∀ q, zA E q → A q := hx.2.2.2.2.2.2.2.2.1
theorem zCx.room (hx : zCx p R s m args c cells slots E A nL own b d sb sc) : d + 1 ≤ R.frames ∧ 60 * d + 60 ≤ R.locals ∧ cells ≤ R.cells ∧ slots ≤ R.slots := hx.2.2.2.2.2.2.2.2.2.1
theorem zs_ldc_w {pc nx tg i : Nat} {cc : Int32} {dd : Int64} {sw mk} {ls : zL} {st : List zV} {σ : zM} (hx : zCx p R s m args c cells slots E A nL own b d sb sc) (ih : zIH p l e R s m args below meth c cells slots Q E A N nL sb sc K r) (hc : zck b own nL (pc, (.ldc_w i, nx, tg, cc, dd, sw, mk)) = true) (h : zop C own rk K ls st σ (.ldc_w i, nx, tg, cc, dd, sw, mk) = some r) : zX p l e R s m args below meth c cells slots Q E A N nL sb sc pc ls st σ := by
  obtain ⟨hd, h1⟩ := zck_s hc
  simp only [zck1, Bool.and_eq_true, decide_eq_true_eq] at h1
  obtain ⟨hv, h1⟩ := h1
  obtain ⟨rfl, hd⟩ := znx (n := 3) hd h1
  intro H locs lsA hH hsc hN hS hL hl hs
  exact lv_ldcw hx.1 hx.2.1 hx.ow (hx.wd (zkc_s hv)) hd (ih _ _ _ _ h H locs lsA hH hsc hN hS hL hl (zoc trivial hs))
theorem zs_ldc2_w {pc nx tg i : Nat} {cc : Int32} {dd : Int64} {sw mk} {ls : zL} {st : List zV} {σ : zM} (hx : zCx p R s m args c cells slots E A nL own b d sb sc) (ih : zIH p l e R s m args below meth c cells slots Q E A N nL sb sc K r) (hc : zck b own nL (pc, (.ldc2_w i, nx, tg, cc, dd, sw, mk)) = true) (h : zop C own rk K ls st σ (.ldc2_w i, nx, tg, cc, dd, sw, mk) = some r) : zX p l e R s m args below meth c cells slots Q E A N nL sb sc pc ls st σ := by
  obtain ⟨hd, h1⟩ := zck_s hc
  simp only [zck1, Bool.and_eq_true, decide_eq_true_eq] at h1
  obtain ⟨hv, h1⟩ := h1
  obtain ⟨rfl, hd⟩ := znx (n := 3) hd h1
  intro H locs lsA hH hsc hN hS hL hl hs
  exact lv_ldc2 hx.1 hx.2.1 hx.ow (hx.wd (zkl_s hv)) hd (ih _ _ _ _ h H locs lsA hH hsc hN hS hL hl (zoc trivial hs))
theorem zs_ldc {pc nx tg i : Nat} {cc : Int32} {dd : Int64} {sw mk} {ls : zL} {st : List zV} {σ : zM} (hx : zCx p R s m args c cells slots E A nL own b d sb sc) (ih : zIH p l e R s m args below meth c cells slots Q E A N nL sb sc K r) (hc : zck b own nL (pc, (.ldc i, nx, tg, cc, dd, sw, mk)) = true) (h : zop C own rk K ls st σ (.ldc i, nx, tg, cc, dd, sw, mk) = some r) : zX p l e R s m args below meth c cells slots Q E A N nL sb sc pc ls st σ := by
  obtain ⟨hd, h1⟩ := zck_s hc
  simp only [zck1, Bool.and_eq_true, Bool.or_eq_true, decide_eq_true_eq] at h1
  obtain ⟨hv, h1⟩ := h1
  obtain ⟨rfl, hd⟩ := znx (n := 2) hd h1
  intro H locs lsA hH hsc hN hS hL hl hs
  simp only [zop] at h
  cases hz : zsd own i with
  | none =>
    rw [hz] at h hv
    rcases hv with hv | hv
    · cases hv
    · exact lv_ldc hx.1 hx.2.1 hx.ow (hx.wd (zkc_s hv)) hd (ih _ _ _ _ h H locs lsA hH hsc hN hS hL hl (zoc trivial hs))
  | some j =>
    rw [hz] at h
    obtain ⟨q, hq, ho, hi, hj, hj2⟩ := zSD_ok hz
    have hr := hx.tx.2.1 q hq
    subst hi
    subst hj
    have h2 := ih _ _ _ _ h H locs lsA hH hsc hN hS hL hl (zoc (by show zokv sb (.inr (.inr (q.2.2, 95))); exact ⟨hj2, rfl⟩) hs)
    exact va_ldcS hx.1 hx.2.1 (own := RX10) (by rw [← ho]; exact hx.ow) hr hd h2
theorem zs_iload_n {pc nx tg : Nat} {cc : Int32} {dd : Int64} {sw mk} {ls : zL} {st : List zV} {σ : zM} {a : Fin 4} (hx : zCx p R s m args c cells slots E A nL own b d sb sc) (ih : zIH p l e R s m args below meth c cells slots Q E A N nL sb sc K r) (hc : zck b own nL (pc, (.iload_n a, nx, tg, cc, dd, sw, mk)) = true) (h : zop C own rk K ls st σ (.iload_n a, nx, tg, cc, dd, sw, mk) = some r) : zX p l e R s m args below meth c cells slots Q E A N nL sb sc pc ls st σ := by
  obtain ⟨hd, h1⟩ := zck_s hc
  obtain ⟨rfl, hd⟩ := znx (n := 1) hd (by simpa [zck1] using h1)
  obtain ⟨x, hv, h⟩ := zvI_s h
  intro H locs lsA hH hsc hN hS hL hl hs
  exact lv_iload_n hx.1 hx.2.1 hd rfl (zlv_get hL hv) (ih _ _ _ _ h H locs lsA hH hsc hN hS hL hl (zoc trivial hs))
theorem zs_iload {pc nx tg : Nat} {cc : Int32} {dd : Int64} {sw mk} {ls : zL} {st : List zV} {σ : zM} {a : Nat} (hx : zCx p R s m args c cells slots E A nL own b d sb sc) (ih : zIH p l e R s m args below meth c cells slots Q E A N nL sb sc K r) (hc : zck b own nL (pc, (.iload a, nx, tg, cc, dd, sw, mk)) = true) (h : zop C own rk K ls st σ (.iload a, nx, tg, cc, dd, sw, mk) = some r) : zX p l e R s m args below meth c cells slots Q E A N nL sb sc pc ls st σ := by
  obtain ⟨hd, h1⟩ := zck_s hc
  obtain ⟨rfl, hd⟩ := znx (n := 2) hd (by simpa [zck1] using h1)
  obtain ⟨x, hv, h⟩ := zvI_s h
  intro H locs lsA hH hsc hN hS hL hl hs
  exact lv_iload hx.1 hx.2.1 hd (zlv_get hL hv) (ih _ _ _ _ h H locs lsA hH hsc hN hS hL hl (zoc trivial hs))
theorem zs_lload_n {pc nx tg : Nat} {cc : Int32} {dd : Int64} {sw mk} {ls : zL} {st : List zV} {σ : zM} {a : Fin 4} (hx : zCx p R s m args c cells slots E A nL own b d sb sc) (ih : zIH p l e R s m args below meth c cells slots Q E A N nL sb sc K r) (hc : zck b own nL (pc, (.lload_n a, nx, tg, cc, dd, sw, mk)) = true) (h : zop C own rk K ls st σ (.lload_n a, nx, tg, cc, dd, sw, mk) = some r) : zX p l e R s m args below meth c cells slots Q E A N nL sb sc pc ls st σ := by
  obtain ⟨hd, h1⟩ := zck_s hc
  obtain ⟨rfl, hd⟩ := znx (n := 1) hd (by simpa [zck1] using h1)
  obtain ⟨x, hv, h⟩ := zvL_s h
  intro H locs lsA hH hsc hN hS hL hl hs
  exact lv_lload_n hx.1 hx.2.1 hd rfl (zlv_get hL hv) (ih _ _ _ _ h H locs lsA hH hsc hN hS hL hl (zoc trivial hs))
theorem zs_lload {pc nx tg : Nat} {cc : Int32} {dd : Int64} {sw mk} {ls : zL} {st : List zV} {σ : zM} {a : Nat} (hx : zCx p R s m args c cells slots E A nL own b d sb sc) (ih : zIH p l e R s m args below meth c cells slots Q E A N nL sb sc K r) (hc : zck b own nL (pc, (.lload a, nx, tg, cc, dd, sw, mk)) = true) (h : zop C own rk K ls st σ (.lload a, nx, tg, cc, dd, sw, mk) = some r) : zX p l e R s m args below meth c cells slots Q E A N nL sb sc pc ls st σ := by
  obtain ⟨hd, h1⟩ := zck_s hc
  obtain ⟨rfl, hd⟩ := znx (n := 2) hd (by simpa [zck1] using h1)
  obtain ⟨x, hv, h⟩ := zvL_s h
  intro H locs lsA hH hsc hN hS hL hl hs
  exact lv_lload hx.1 hx.2.1 hd (zlv_get hL hv) (ih _ _ _ _ h H locs lsA hH hsc hN hS hL hl (zoc trivial hs))
theorem zs_aload_n {pc nx tg : Nat} {cc : Int32} {dd : Int64} {sw mk} {ls : zL} {st : List zV} {σ : zM} {a : Fin 4} (hx : zCx p R s m args c cells slots E A nL own b d sb sc) (ih : zIH p l e R s m args below meth c cells slots Q E A N nL sb sc K r) (hc : zck b own nL (pc, (.aload_n a, nx, tg, cc, dd, sw, mk)) = true) (h : zop C own rk K ls st σ (.aload_n a, nx, tg, cc, dd, sw, mk) = some r) : zX p l e R s m args below meth c cells slots Q E A N nL sb sc pc ls st σ := by
  obtain ⟨hd, h1⟩ := zck_s hc
  obtain ⟨rfl, hd⟩ := znx (n := 1) hd (by simpa [zck1] using h1)
  obtain ⟨g, k, hv, h⟩ := zvR_s h
  obtain ⟨h9, h⟩ := zcb_none h
  intro H locs lsA hH hsc hN hS hL hl hs
  have h2 := zlv_get hL hv
  rw [zvv_ref h9] at h2
  have h3 := ih _ _ _ _ h H locs lsA hH hsc hN hS hL hl (zoc (hl _ (zget_mem hv)) hs)
  rw [List.map_cons, zvv_ref h9] at h3
  exact lv_aload_n hx.1 hx.2.1 hd rfl h2 h3
theorem zs_istore_n {pc nx tg : Nat} {cc : Int32} {dd : Int64} {sw mk} {ls : zL} {st : List zV} {σ : zM} {a : Fin 4} (hx : zCx p R s m args c cells slots E A nL own b d sb sc) (ih : zIH p l e R s m args below meth c cells slots Q E A N nL sb sc K r) (hc : zck b own nL (pc, (.istore_n a, nx, tg, cc, dd, sw, mk)) = true) (h : zop C own rk K ls st σ (.istore_n a, nx, tg, cc, dd, sw, mk) = some r) : zX p l e R s m args below meth c cells slots Q E A N nL sb sc pc ls st σ := by
  obtain ⟨hd, h1⟩ := zck_s hc
  simp only [zck1, Bool.and_eq_true] at h1
  obtain ⟨hv, h1⟩ := h1
  obtain ⟨rfl, hd⟩ := znx (n := 1) hd h1
  obtain ⟨x, t, rfl, h⟩ := zo1_s h
  intro H locs lsA hH hsc hN hS hL hl hs
  refine lv_istore_n hx.1 hx.2.1 hd rfl hL (Nat.blt_eq.mp hv) rfl (fun ls' hL' => ?_)
  exact ih _ _ _ _ h H locs ls' hH hsc hN hS (zlv_put hx.cat rfl hL') (fun v hv => (zput_mem hv).elim (hl v) (fun q => q ▸ trivial)) (zot hs)
theorem zs_istore {pc nx tg : Nat} {cc : Int32} {dd : Int64} {sw mk} {ls : zL} {st : List zV} {σ : zM} {a : Nat} (hx : zCx p R s m args c cells slots E A nL own b d sb sc) (ih : zIH p l e R s m args below meth c cells slots Q E A N nL sb sc K r) (hc : zck b own nL (pc, (.istore a, nx, tg, cc, dd, sw, mk)) = true) (h : zop C own rk K ls st σ (.istore a, nx, tg, cc, dd, sw, mk) = some r) : zX p l e R s m args below meth c cells slots Q E A N nL sb sc pc ls st σ := by
  obtain ⟨hd, h1⟩ := zck_s hc
  simp only [zck1, Bool.and_eq_true] at h1
  obtain ⟨hv, h1⟩ := h1
  obtain ⟨rfl, hd⟩ := znx (n := 2) hd h1
  obtain ⟨x, t, rfl, h⟩ := zo1_s h
  intro H locs lsA hH hsc hN hS hL hl hs
  refine lv_istore hx.1 hx.2.1 hd hL (Nat.blt_eq.mp hv) rfl (fun ls' hL' => ?_)
  exact ih _ _ _ _ h H locs ls' hH hsc hN hS (zlv_put hx.cat rfl hL') (fun v hv => (zput_mem hv).elim (hl v) (fun q => q ▸ trivial)) (zot hs)
theorem zs_lstore_n {pc nx tg : Nat} {cc : Int32} {dd : Int64} {sw mk} {ls : zL} {st : List zV} {σ : zM} {a : Fin 4} (hx : zCx p R s m args c cells slots E A nL own b d sb sc) (ih : zIH p l e R s m args below meth c cells slots Q E A N nL sb sc K r) (hc : zck b own nL (pc, (.lstore_n a, nx, tg, cc, dd, sw, mk)) = true) (h : zop C own rk K ls st σ (.lstore_n a, nx, tg, cc, dd, sw, mk) = some r) : zX p l e R s m args below meth c cells slots Q E A N nL sb sc pc ls st σ := by
  obtain ⟨hd, h1⟩ := zck_s hc
  simp only [zck1, Bool.and_eq_true] at h1
  obtain ⟨hv, h1⟩ := h1
  obtain ⟨rfl, hd⟩ := znx (n := 1) hd h1
  obtain ⟨x, t, rfl, h⟩ := zl1_s h
  intro H locs lsA hH hsc hN hS hL hl hs
  refine lv_lstore_n hx.1 hx.2.1 hd rfl hL (Nat.blt_eq.mp hv) rfl (fun ls' hL' => ?_)
  refine ih _ _ _ _ h H locs ls' hH hsc hN hS (lv_less hL' fun q hq => ?_) (fun v hv => (zput_mem (zcut_mem hv)).elim (hl v) (fun q => q ▸ trivial)) (zot hs)
  have hne : ¬ q.1 = a.val + 1 := by
    intro z
    exact zls_cut_ne hq (by rw [z, Nat.zero_add])
  rcases zls_put hx.cat (zls_cut hq) with h | ⟨h1, h2, h3⟩
  · rw [h, Nat.zero_add]; exact List.mem_cons_self
  · refine List.mem_cons_of_mem _ (List.mem_filter.mpr ⟨h1, ?_⟩)
    rw [Nat.zero_add] at h2 h3
    simp only [Bool.and_eq_true, Bool.not_eq_true', beq_eq_false_iff_ne, ne_eq, Bool.and_eq_false_iff]
    refine ⟨h2, hne, ?_⟩
    by_cases e : q.1 + 1 = a.val
    · exact Or.inr fun z => h3 ⟨e, z⟩
    · exact Or.inl e
theorem zs_iinc {pc nx tg : Nat} {cc : Int32} {dd : Int64} {sw mk} {ls : zL} {st : List zV} {σ : zM} {a : Nat} {n : Int} (hx : zCx p R s m args c cells slots E A nL own b d sb sc) (ih : zIH p l e R s m args below meth c cells slots Q E A N nL sb sc K r) (hc : zck b own nL (pc, (.iinc a n, nx, tg, cc, dd, sw, mk)) = true) (h : zop C own rk K ls st σ (.iinc a n, nx, tg, cc, dd, sw, mk) = some r) : zX p l e R s m args below meth c cells slots Q E A N nL sb sc pc ls st σ := by
  obtain ⟨hd, h1⟩ := zck_s hc
  simp only [zck1, Bool.and_eq_true, decide_eq_true_eq] at h1
  obtain ⟨hn, hv, h1⟩ := h1
  obtain ⟨rfl, hd⟩ := znx (n := 3) hd h1
  obtain ⟨x, hg, h⟩ := zvI_s h
  intro H locs lsA hH hsc hN hS hL hl hs
  have hm := zls_get (E := E) (b := 0) hg
  rw [Nat.zero_add] at hm
  obtain ⟨k, hk⟩ := List.getElem?_of_mem hm
  refine lv_iinc hx.1 hx.2.1 hd hL hk (v := x + cc) (by rw [hn]) (Nat.blt_eq.mp hv) rfl (fun ls' hL' => ?_)
  exact ih _ _ _ _ h H locs ls' hH hsc hN hS (zlv_put hx.cat rfl hL') (fun v hv => (zput_mem hv).elim (hl v) (fun q => q ▸ trivial)) hs
theorem zs_goto {pc nx tg : Nat} {cc : Int32} {dd : Int64} {sw mk} {ls : zL} {st : List zV} {σ : zM} {n : Int} (hx : zCx p R s m args c cells slots E A nL own b d sb sc) (ih : zIH p l e R s m args below meth c cells slots Q E A N nL sb sc K r) (hc : zck b own nL (pc, (.goto n, nx, tg, cc, dd, sw, mk)) = true) (h : zop C own rk K ls st σ (.goto n, nx, tg, cc, dd, sw, mk) = some r) : zX p l e R s m args below meth c cells slots Q E A N nL sb sc pc ls st σ := by
  obtain ⟨hd, h1⟩ := zck_s hc
  simp only [zck1, Bool.and_eq_true, decide_eq_true_eq] at h1
  obtain ⟨hv, h1⟩ := h1
  obtain ⟨rfl, hd⟩ := znx (n := 3) hd h1
  intro H locs lsA hH hsc hN hS hL hl hs
  exact lv_goto hx.1 hx.2.1 hd hv (ih _ _ _ _ h H locs lsA hH hsc hN hS hL hl hs)
theorem zs_ifCond_eq {pc nx tg : Nat} {cc : Int32} {dd : Int64} {sw mk} {ls : zL} {st : List zV} {σ : zM} {n : Int} (hx : zCx p R s m args c cells slots E A nL own b d sb sc) (ih : zIH p l e R s m args below meth c cells slots Q E A N nL sb sc K r) (hc : zck b own nL (pc, (.ifCond .eq n, nx, tg, cc, dd, sw, mk)) = true) (h : zop C own rk K ls st σ (.ifCond .eq n, nx, tg, cc, dd, sw, mk) = some r) : zX p l e R s m args below meth c cells slots Q E A N nL sb sc pc ls st σ := by
  obtain ⟨hd, h1⟩ := zck_s hc
  simp only [zck1, Bool.and_eq_true, decide_eq_true_eq] at h1
  obtain ⟨hv, h1⟩ := h1
  obtain ⟨rfl, hd⟩ := znx (n := 3) hd h1
  obtain ⟨x, t, rfl, g1⟩ := zo1_s h
  intro H locs lsA hH hsc hN hS hL hl hs
  exact lv_if_eq hx.1 hx.2.1 hd hv (fun q => by rw [if_pos q] at g1; exact ih _ _ _ _ g1 H locs lsA hH hsc hN hS hL hl (zot hs)) (fun q => by rw [if_neg q] at g1; exact ih _ _ _ _ g1 H locs lsA hH hsc hN hS hL hl (zot hs))
theorem zs_ifCond_ne {pc nx tg : Nat} {cc : Int32} {dd : Int64} {sw mk} {ls : zL} {st : List zV} {σ : zM} {n : Int} (hx : zCx p R s m args c cells slots E A nL own b d sb sc) (ih : zIH p l e R s m args below meth c cells slots Q E A N nL sb sc K r) (hc : zck b own nL (pc, (.ifCond .ne n, nx, tg, cc, dd, sw, mk)) = true) (h : zop C own rk K ls st σ (.ifCond .ne n, nx, tg, cc, dd, sw, mk) = some r) : zX p l e R s m args below meth c cells slots Q E A N nL sb sc pc ls st σ := by
  obtain ⟨hd, h1⟩ := zck_s hc
  simp only [zck1, Bool.and_eq_true, decide_eq_true_eq] at h1
  obtain ⟨hv, h1⟩ := h1
  obtain ⟨rfl, hd⟩ := znx (n := 3) hd h1
  obtain ⟨x, t, rfl, g1⟩ := zo1_s h
  intro H locs lsA hH hsc hN hS hL hl hs
  exact lv_if_ne hx.1 hx.2.1 hd hv (fun q => by rw [if_neg q] at g1; exact ih _ _ _ _ g1 H locs lsA hH hsc hN hS hL hl (zot hs)) (fun q => by rw [if_pos q] at g1; exact ih _ _ _ _ g1 H locs lsA hH hsc hN hS hL hl (zot hs))
theorem zs_ifCond_lt {pc nx tg : Nat} {cc : Int32} {dd : Int64} {sw mk} {ls : zL} {st : List zV} {σ : zM} {n : Int} (hx : zCx p R s m args c cells slots E A nL own b d sb sc) (ih : zIH p l e R s m args below meth c cells slots Q E A N nL sb sc K r) (hc : zck b own nL (pc, (.ifCond .lt n, nx, tg, cc, dd, sw, mk)) = true) (h : zop C own rk K ls st σ (.ifCond .lt n, nx, tg, cc, dd, sw, mk) = some r) : zX p l e R s m args below meth c cells slots Q E A N nL sb sc pc ls st σ := by
  obtain ⟨hd, h1⟩ := zck_s hc
  simp only [zck1, Bool.and_eq_true, decide_eq_true_eq] at h1
  obtain ⟨hv, h1⟩ := h1
  obtain ⟨rfl, hd⟩ := znx (n := 3) hd h1
  obtain ⟨x, t, rfl, g1⟩ := zo1_s h
  intro H locs lsA hH hsc hN hS hL hl hs
  exact lv_if_lt hx.1 hx.2.1 hd hv (fun q => by rw [if_pos q] at g1; exact ih _ _ _ _ g1 H locs lsA hH hsc hN hS hL hl (zot hs)) (fun q => by rw [if_neg q] at g1; exact ih _ _ _ _ g1 H locs lsA hH hsc hN hS hL hl (zot hs))
theorem zs_ifCond_ge {pc nx tg : Nat} {cc : Int32} {dd : Int64} {sw mk} {ls : zL} {st : List zV} {σ : zM} {n : Int} (hx : zCx p R s m args c cells slots E A nL own b d sb sc) (ih : zIH p l e R s m args below meth c cells slots Q E A N nL sb sc K r) (hc : zck b own nL (pc, (.ifCond .ge n, nx, tg, cc, dd, sw, mk)) = true) (h : zop C own rk K ls st σ (.ifCond .ge n, nx, tg, cc, dd, sw, mk) = some r) : zX p l e R s m args below meth c cells slots Q E A N nL sb sc pc ls st σ := by
  obtain ⟨hd, h1⟩ := zck_s hc
  simp only [zck1, Bool.and_eq_true, decide_eq_true_eq] at h1
  obtain ⟨hv, h1⟩ := h1
  obtain ⟨rfl, hd⟩ := znx (n := 3) hd h1
  obtain ⟨x, t, rfl, g1⟩ := zo1_s h
  intro H locs lsA hH hsc hN hS hL hl hs
  exact lv_if_ge hx.1 hx.2.1 hd hv (fun q => by rw [if_neg (Int32.not_lt.mpr q)] at g1; exact ih _ _ _ _ g1 H locs lsA hH hsc hN hS hL hl (zot hs)) (fun q => by rw [if_pos (Int32.not_le.mp q)] at g1; exact ih _ _ _ _ g1 H locs lsA hH hsc hN hS hL hl (zot hs))
theorem zs_ifCond_gt {pc nx tg : Nat} {cc : Int32} {dd : Int64} {sw mk} {ls : zL} {st : List zV} {σ : zM} {n : Int} (hx : zCx p R s m args c cells slots E A nL own b d sb sc) (ih : zIH p l e R s m args below meth c cells slots Q E A N nL sb sc K r) (hc : zck b own nL (pc, (.ifCond .gt n, nx, tg, cc, dd, sw, mk)) = true) (h : zop C own rk K ls st σ (.ifCond .gt n, nx, tg, cc, dd, sw, mk) = some r) : zX p l e R s m args below meth c cells slots Q E A N nL sb sc pc ls st σ := by
  obtain ⟨hd, h1⟩ := zck_s hc
  simp only [zck1, Bool.and_eq_true, decide_eq_true_eq] at h1
  obtain ⟨hv, h1⟩ := h1
  obtain ⟨rfl, hd⟩ := znx (n := 3) hd h1
  obtain ⟨x, t, rfl, g1⟩ := zo1_s h
  intro H locs lsA hH hsc hN hS hL hl hs
  exact lv_if_gt hx.1 hx.2.1 hd hv (fun q => by rw [if_pos q] at g1; exact ih _ _ _ _ g1 H locs lsA hH hsc hN hS hL hl (zot hs)) (fun q => by rw [if_neg q] at g1; exact ih _ _ _ _ g1 H locs lsA hH hsc hN hS hL hl (zot hs))
theorem zs_ifCond_le {pc nx tg : Nat} {cc : Int32} {dd : Int64} {sw mk} {ls : zL} {st : List zV} {σ : zM} {n : Int} (hx : zCx p R s m args c cells slots E A nL own b d sb sc) (ih : zIH p l e R s m args below meth c cells slots Q E A N nL sb sc K r) (hc : zck b own nL (pc, (.ifCond .le n, nx, tg, cc, dd, sw, mk)) = true) (h : zop C own rk K ls st σ (.ifCond .le n, nx, tg, cc, dd, sw, mk) = some r) : zX p l e R s m args below meth c cells slots Q E A N nL sb sc pc ls st σ := by
  obtain ⟨hd, h1⟩ := zck_s hc
  simp only [zck1, Bool.and_eq_true, decide_eq_true_eq] at h1
  obtain ⟨hv, h1⟩ := h1
  obtain ⟨rfl, hd⟩ := znx (n := 3) hd h1
  obtain ⟨x, t, rfl, g1⟩ := zo1_s h
  intro H locs lsA hH hsc hN hS hL hl hs
  exact lv_if_le hx.1 hx.2.1 hd hv (fun q => by rw [if_neg (Int32.not_lt.mpr q)] at g1; exact ih _ _ _ _ g1 H locs lsA hH hsc hN hS hL hl (zot hs)) (fun q => by rw [if_pos (Int32.not_le.mp q)] at g1; exact ih _ _ _ _ g1 H locs lsA hH hsc hN hS hL hl (zot hs))
theorem zs_if_icmp_eq {pc nx tg : Nat} {cc : Int32} {dd : Int64} {sw mk} {ls : zL} {st : List zV} {σ : zM} {n : Int} (hx : zCx p R s m args c cells slots E A nL own b d sb sc) (ih : zIH p l e R s m args below meth c cells slots Q E A N nL sb sc K r) (hc : zck b own nL (pc, (.if_icmp .eq n, nx, tg, cc, dd, sw, mk)) = true) (h : zop C own rk K ls st σ (.if_icmp .eq n, nx, tg, cc, dd, sw, mk) = some r) : zX p l e R s m args below meth c cells slots Q E A N nL sb sc pc ls st σ := by
  obtain ⟨hd, h1⟩ := zck_s hc
  simp only [zck1, Bool.and_eq_true, decide_eq_true_eq] at h1
  obtain ⟨hv, h1⟩ := h1
  obtain ⟨rfl, hd⟩ := znx (n := 3) hd h1
  obtain ⟨y, x, t, rfl, g1⟩ := zo2_s h
  intro H locs lsA hH hsc hN hS hL hl hs
  exact lv_icmp_eq hx.1 hx.2.1 hd hv (fun q => by rw [if_pos q] at g1; exact ih _ _ _ _ g1 H locs lsA hH hsc hN hS hL hl (zot (zot hs))) (fun q => by rw [if_neg q] at g1; exact ih _ _ _ _ g1 H locs lsA hH hsc hN hS hL hl (zot (zot hs)))
theorem zs_if_icmp_ne {pc nx tg : Nat} {cc : Int32} {dd : Int64} {sw mk} {ls : zL} {st : List zV} {σ : zM} {n : Int} (hx : zCx p R s m args c cells slots E A nL own b d sb sc) (ih : zIH p l e R s m args below meth c cells slots Q E A N nL sb sc K r) (hc : zck b own nL (pc, (.if_icmp .ne n, nx, tg, cc, dd, sw, mk)) = true) (h : zop C own rk K ls st σ (.if_icmp .ne n, nx, tg, cc, dd, sw, mk) = some r) : zX p l e R s m args below meth c cells slots Q E A N nL sb sc pc ls st σ := by
  obtain ⟨hd, h1⟩ := zck_s hc
  simp only [zck1, Bool.and_eq_true, decide_eq_true_eq] at h1
  obtain ⟨hv, h1⟩ := h1
  obtain ⟨rfl, hd⟩ := znx (n := 3) hd h1
  obtain ⟨y, x, t, rfl, g1⟩ := zo2_s h
  intro H locs lsA hH hsc hN hS hL hl hs
  exact lv_icmp_ne hx.1 hx.2.1 hd hv (fun q => by rw [if_neg q] at g1; exact ih _ _ _ _ g1 H locs lsA hH hsc hN hS hL hl (zot (zot hs))) (fun q => by rw [if_pos q] at g1; exact ih _ _ _ _ g1 H locs lsA hH hsc hN hS hL hl (zot (zot hs)))
theorem zs_if_icmp_lt {pc nx tg : Nat} {cc : Int32} {dd : Int64} {sw mk} {ls : zL} {st : List zV} {σ : zM} {n : Int} (hx : zCx p R s m args c cells slots E A nL own b d sb sc) (ih : zIH p l e R s m args below meth c cells slots Q E A N nL sb sc K r) (hc : zck b own nL (pc, (.if_icmp .lt n, nx, tg, cc, dd, sw, mk)) = true) (h : zop C own rk K ls st σ (.if_icmp .lt n, nx, tg, cc, dd, sw, mk) = some r) : zX p l e R s m args below meth c cells slots Q E A N nL sb sc pc ls st σ := by
  obtain ⟨hd, h1⟩ := zck_s hc
  simp only [zck1, Bool.and_eq_true, decide_eq_true_eq] at h1
  obtain ⟨hv, h1⟩ := h1
  obtain ⟨rfl, hd⟩ := znx (n := 3) hd h1
  obtain ⟨y, x, t, rfl, g1⟩ := zo2_s h
  intro H locs lsA hH hsc hN hS hL hl hs
  exact lv_icmp_lt hx.1 hx.2.1 hd hv (fun q => by rw [if_pos q] at g1; exact ih _ _ _ _ g1 H locs lsA hH hsc hN hS hL hl (zot (zot hs))) (fun q => by rw [if_neg q] at g1; exact ih _ _ _ _ g1 H locs lsA hH hsc hN hS hL hl (zot (zot hs)))
theorem zs_if_icmp_ge {pc nx tg : Nat} {cc : Int32} {dd : Int64} {sw mk} {ls : zL} {st : List zV} {σ : zM} {n : Int} (hx : zCx p R s m args c cells slots E A nL own b d sb sc) (ih : zIH p l e R s m args below meth c cells slots Q E A N nL sb sc K r) (hc : zck b own nL (pc, (.if_icmp .ge n, nx, tg, cc, dd, sw, mk)) = true) (h : zop C own rk K ls st σ (.if_icmp .ge n, nx, tg, cc, dd, sw, mk) = some r) : zX p l e R s m args below meth c cells slots Q E A N nL sb sc pc ls st σ := by
  obtain ⟨hd, h1⟩ := zck_s hc
  simp only [zck1, Bool.and_eq_true, decide_eq_true_eq] at h1
  obtain ⟨hv, h1⟩ := h1
  obtain ⟨rfl, hd⟩ := znx (n := 3) hd h1
  obtain ⟨y, x, t, rfl, g1⟩ := zo2_s h
  intro H locs lsA hH hsc hN hS hL hl hs
  exact lv_icmp_ge hx.1 hx.2.1 hd hv (fun q => by rw [if_neg (Int32.not_lt.mpr q)] at g1; exact ih _ _ _ _ g1 H locs lsA hH hsc hN hS hL hl (zot (zot hs))) (fun q => by rw [if_pos (Int32.not_le.mp q)] at g1; exact ih _ _ _ _ g1 H locs lsA hH hsc hN hS hL hl (zot (zot hs)))
theorem zs_if_icmp_gt {pc nx tg : Nat} {cc : Int32} {dd : Int64} {sw mk} {ls : zL} {st : List zV} {σ : zM} {n : Int} (hx : zCx p R s m args c cells slots E A nL own b d sb sc) (ih : zIH p l e R s m args below meth c cells slots Q E A N nL sb sc K r) (hc : zck b own nL (pc, (.if_icmp .gt n, nx, tg, cc, dd, sw, mk)) = true) (h : zop C own rk K ls st σ (.if_icmp .gt n, nx, tg, cc, dd, sw, mk) = some r) : zX p l e R s m args below meth c cells slots Q E A N nL sb sc pc ls st σ := by
  obtain ⟨hd, h1⟩ := zck_s hc
  simp only [zck1, Bool.and_eq_true, decide_eq_true_eq] at h1
  obtain ⟨hv, h1⟩ := h1
  obtain ⟨rfl, hd⟩ := znx (n := 3) hd h1
  obtain ⟨y, x, t, rfl, g1⟩ := zo2_s h
  intro H locs lsA hH hsc hN hS hL hl hs
  exact lv_icmp_gt hx.1 hx.2.1 hd hv (fun q => by rw [if_pos q] at g1; exact ih _ _ _ _ g1 H locs lsA hH hsc hN hS hL hl (zot (zot hs))) (fun q => by rw [if_neg q] at g1; exact ih _ _ _ _ g1 H locs lsA hH hsc hN hS hL hl (zot (zot hs)))
theorem zs_if_icmp_le {pc nx tg : Nat} {cc : Int32} {dd : Int64} {sw mk} {ls : zL} {st : List zV} {σ : zM} {n : Int} (hx : zCx p R s m args c cells slots E A nL own b d sb sc) (ih : zIH p l e R s m args below meth c cells slots Q E A N nL sb sc K r) (hc : zck b own nL (pc, (.if_icmp .le n, nx, tg, cc, dd, sw, mk)) = true) (h : zop C own rk K ls st σ (.if_icmp .le n, nx, tg, cc, dd, sw, mk) = some r) : zX p l e R s m args below meth c cells slots Q E A N nL sb sc pc ls st σ := by
  obtain ⟨hd, h1⟩ := zck_s hc
  simp only [zck1, Bool.and_eq_true, decide_eq_true_eq] at h1
  obtain ⟨hv, h1⟩ := h1
  obtain ⟨rfl, hd⟩ := znx (n := 3) hd h1
  obtain ⟨y, x, t, rfl, g1⟩ := zo2_s h
  intro H locs lsA hH hsc hN hS hL hl hs
  exact lv_icmp_le hx.1 hx.2.1 hd hv (fun q => by rw [if_neg (Int32.not_lt.mpr q)] at g1; exact ih _ _ _ _ g1 H locs lsA hH hsc hN hS hL hl (zot (zot hs))) (fun q => by rw [if_pos (Int32.not_le.mp q)] at g1; exact ih _ _ _ _ g1 H locs lsA hH hsc hN hS hL hl (zot (zot hs)))
end ZST
