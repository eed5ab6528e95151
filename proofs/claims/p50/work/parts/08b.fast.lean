set_option maxRecDepth 100000
abbrev zDc (α : Type) : Type := Jvm.ClassFile.Reader Jvm.ClassFile.DecodeError α
abbrev zU1 : zDc Nat := Jvm.ClassFile.Reader.u1
theorem zu1 {b : ByteArray} {p : Nat} {x : UInt8} {r : List UInt8} (h : b.data.toList.drop p = x :: r) : zU1 b p = .ok (x.toNat, p + 1) ∧ b.data.toList.drop (p + 1) = r := by
  have hl : p < b.data.toList.length := by
    rcases Nat.lt_or_ge p b.data.toList.length with q | q
    · exact q
    · rw [List.drop_eq_nil_of_le q] at h; cases h
  have hd : b.data.toList.drop p = b.data.toList[p] :: b.data.toList.drop (p + 1) := List.drop_eq_getElem_cons hl
  rw [hd] at h
  injection h with h1 h2
  refine ⟨?_, h2⟩
  have hp : p < b.size := hl
  have e : zU1 b p = (if h : p < b.size then (do set (p + 1); Pure.pure (b[p]).toNat : zDc Nat) else throw (Jvm.ClassFile.HasTruncated.truncated p)) b p := rfl
  rw [e, dif_pos hp]
  show Except.ok ((b.data.toList[p]).toNat, p + 1) = _
  rw [h1]
theorem zdk {b : ByteArray} {p k : Nat} {X : zDc Instr} {i : Instr} {n : Nat} (hF : ∃ F : Nat → zDc Instr, Jvm.ClassFile.Decoder.instr p = (zU1 >>= F) ∧ F k = X) (h1 : zU1 b p = .ok (k, p + 1)) (hX : X b (p + 1) = .ok (i, p + n)) : decode b p = .ok (i, n) := by
  obtain ⟨F, e1, e2⟩ := hF
  show Except.bind ((Jvm.ClassFile.Decoder.instr p) b p) (fun x => Except.ok (x.1, x.2 - p)) = _
  rw [e1]
  show Except.bind (Except.bind (zU1 b p) (fun x => F x.1 b x.2)) (fun x => Except.ok (x.1, x.2 - p)) = _
  rw [h1]
  show Except.bind (F k b (p + 1)) (fun x => Except.ok (x.1, x.2 - p)) = _
  rw [e2, hX]
  show Except.ok (i, p + n - p) = _
  rw [Nat.add_sub_cancel_left]
theorem zX1 {g : Nat → Instr} {b : ByteArray} {q : Nat} {x : UInt8} {r : List UInt8} (h : b.data.toList.drop q = x :: r) : (do Pure.pure (g (← Jvm.ClassFile.Reader.u1)) : zDc Instr) b q = .ok (g x.toNat, q + 1) := by
  show Except.bind (zU1 b q) (fun a => Except.ok (g a.1, a.2)) = _
  rw [(zu1 h).1]; rfl
theorem zX2 {g : Nat → Instr} {b : ByteArray} {q : Nat} {x y : UInt8} {r : List UInt8} (h : b.data.toList.drop q = x :: y :: r) : (do Pure.pure (g (← Jvm.ClassFile.Reader.u2)) : zDc Instr) b q = .ok (g (x.toNat * 256 + y.toNat), q + 2) := by
  obtain ⟨h1, h2⟩ := zu1 h
  show Except.bind (Except.bind (zU1 b q) (fun a => Except.bind (zU1 b a.2) (fun c => Except.ok (a.1 * 256 + c.1, c.2)))) (fun a => Except.ok (g a.1, a.2)) = _
  rw [h1]
  show Except.bind (Except.bind (zU1 b (q + 1)) (fun c => Except.ok (x.toNat * 256 + c.1, c.2))) (fun a => Except.ok (g a.1, a.2)) = _
  rw [(zu1 h2).1]; rfl
theorem zXs1 {g : Int → Instr} {b : ByteArray} {q : Nat} {x : UInt8} {r : List UInt8} (h : b.data.toList.drop q = x :: r) : (do Pure.pure (g (← Jvm.ClassFile.Reader.s1)) : zDc Instr) b q = .ok (g (Jvm.ClassFile.Reader.signed 8 x.toNat), q + 1) := by
  show Except.bind (Except.bind (zU1 b q) (fun a => Except.ok (Jvm.ClassFile.Reader.signed 8 a.1, a.2))) (fun a => Except.ok (g a.1, a.2)) = _
  rw [(zu1 h).1]; rfl
theorem zXs2 {g : Int → Instr} {b : ByteArray} {q : Nat} {x y : UInt8} {r : List UInt8} (h : b.data.toList.drop q = x :: y :: r) : (do Pure.pure (g (← Jvm.ClassFile.Reader.s2)) : zDc Instr) b q = .ok (g (Jvm.ClassFile.Reader.signed 16 (x.toNat * 256 + y.toNat)), q + 2) := by
  obtain ⟨h1, h2⟩ := zu1 h
  show Except.bind (Except.bind (Except.bind (zU1 b q) (fun a => Except.bind (zU1 b a.2) (fun c => Except.ok (a.1 * 256 + c.1, c.2)))) (fun a => Except.ok (Jvm.ClassFile.Reader.signed 16 a.1, a.2))) (fun a => Except.ok (g a.1, a.2)) = _
  rw [h1]
  show Except.bind (Except.bind (Except.bind (zU1 b (q + 1)) (fun c => Except.ok (x.toNat * 256 + c.1, c.2))) (fun a => Except.ok (Jvm.ClassFile.Reader.signed 16 a.1, a.2))) (fun a => Except.ok (g a.1, a.2)) = _
  rw [(zu1 h2).1]; rfl
theorem zXi {b : ByteArray} {q : Nat} {x y : UInt8} {r : List UInt8} (h : b.data.toList.drop q = x :: y :: r) : (do Pure.pure (.iinc (← Jvm.ClassFile.Reader.u1) (← Jvm.ClassFile.Reader.s1)) : zDc Instr) b q = .ok (.iinc x.toNat (Jvm.ClassFile.Reader.signed 8 y.toNat), q + 2) := by
  obtain ⟨h1, h2⟩ := zu1 h
  show Except.bind (zU1 b q) (fun a => Except.bind (Except.bind (zU1 b a.2) (fun c => Except.ok (Jvm.ClassFile.Reader.signed 8 c.1, c.2))) (fun c => Except.ok (Instr.iinc a.1 c.1, c.2))) = _
  rw [h1]
  show Except.bind (Except.bind (zU1 b (q + 1)) (fun c => Except.ok (Jvm.ClassFile.Reader.signed 8 c.1, c.2))) (fun c => Except.ok (Instr.iinc x.toNat c.1, c.2)) = _
  rw [(zu1 h2).1]; rfl
abbrev zfT : Type := List UInt8 → Option (Instr × Nat × List UInt8)
def zf0 (i : Instr) : zfT := fun r => some (i, 1, r)
def zf1 (g : Nat → Instr) : zfT := fun r => match r with | x :: r => some (g x.toNat, 2, r) | [] => none
def zf2 (g : Nat → Instr) : zfT := fun r => match r with | x :: y :: r => some (g (x.toNat * 256 + y.toNat), 3, r) | _ => none
def zfs1 (g : Int → Instr) : zfT := fun r => match r with | x :: r => some (g (Jvm.ClassFile.Reader.signed 8 x.toNat), 2, r) | [] => none
def zfs2 (g : Int → Instr) : zfT := fun r => match r with | x :: y :: r => some (g (Jvm.ClassFile.Reader.signed 16 (x.toNat * 256 + y.toNat)), 3, r) | _ => none
def zfi : zfT := fun r => match r with | x :: y :: r => some (.iinc x.toNat (Jvm.ClassFile.Reader.signed 8 y.toNat), 3, r) | _ => none
def zGd (e : Nat × zfT) : Prop := ∀ (b : ByteArray) (p : Nat) (x : UInt8) (r : List UInt8) (i : Instr) (n : Nat) (t : List UInt8), x.toNat = e.1 → b.data.toList.drop p = x :: r → e.2 r = some (i, n, t) → decode b p = .ok (i, n) ∧ b.data.toList.drop (p + n) = t
theorem zG0 {k : Nat} {i : Instr} (hF : ∀ p, ∃ F : Nat → zDc Instr, Jvm.ClassFile.Decoder.instr p = (zU1 >>= F) ∧ F k = Pure.pure i) : zGd (k, zf0 i) := by
  intro b p x r j n t hx h hf
  have hx : x.toNat = k := hx
  have hf : some (i, 1, r) = some (j, n, t) := hf
  cases hf
  obtain ⟨h1, h2⟩ := zu1 h
  rw [hx] at h1
  exact ⟨zdk (hF p) h1 rfl, h2⟩
theorem zG1 {k : Nat} {g : Nat → Instr} (hF : ∀ p, ∃ F : Nat → zDc Instr, Jvm.ClassFile.Decoder.instr p = (zU1 >>= F) ∧ F k = (do Pure.pure (g (← Jvm.ClassFile.Reader.u1)))) : zGd (k, zf1 g) := by
  intro b p x r j n t hx h hf
  have hx : x.toNat = k := hx
  obtain ⟨h1, h2⟩ := zu1 h
  rw [hx] at h1
  cases r with
  | nil => cases hf
  | cons y r =>
    have hf : some (g y.toNat, 2, r) = some (j, n, t) := hf
    cases hf
    exact ⟨zdk (hF p) h1 (zX1 h2), (zu1 h2).2⟩
theorem zGs1 {k : Nat} {g : Int → Instr} (hF : ∀ p, ∃ F : Nat → zDc Instr, Jvm.ClassFile.Decoder.instr p = (zU1 >>= F) ∧ F k = (do Pure.pure (g (← Jvm.ClassFile.Reader.s1)))) : zGd (k, zfs1 g) := by
  intro b p x r j n t hx h hf
  have hx : x.toNat = k := hx
  obtain ⟨h1, h2⟩ := zu1 h
  rw [hx] at h1
  cases r with
  | nil => cases hf
  | cons y r =>
    have hf : some (g (Jvm.ClassFile.Reader.signed 8 y.toNat), 2, r) = some (j, n, t) := hf
    cases hf
    exact ⟨zdk (hF p) h1 (zXs1 h2), (zu1 h2).2⟩
theorem zG2 {k : Nat} {g : Nat → Instr} (hF : ∀ p, ∃ F : Nat → zDc Instr, Jvm.ClassFile.Decoder.instr p = (zU1 >>= F) ∧ F k = (do Pure.pure (g (← Jvm.ClassFile.Reader.u2)))) : zGd (k, zf2 g) := by
  intro b p x r j n t hx h hf
  have hx : x.toNat = k := hx
  obtain ⟨h1, h2⟩ := zu1 h
  rw [hx] at h1
  cases r with
  | nil => cases hf
  | cons y r =>
    cases r with
    | nil => cases hf
    | cons z r =>
      have hf : some (g (y.toNat * 256 + z.toNat), 3, r) = some (j, n, t) := hf
      cases hf
      exact ⟨zdk (hF p) h1 (zX2 h2), (zu1 (zu1 h2).2).2⟩
theorem zGs2 {k : Nat} {g : Int → Instr} (hF : ∀ p, ∃ F : Nat → zDc Instr, Jvm.ClassFile.Decoder.instr p = (zU1 >>= F) ∧ F k = (do Pure.pure (g (← Jvm.ClassFile.Reader.s2)))) : zGd (k, zfs2 g) := by
  intro b p x r j n t hx h hf
  have hx : x.toNat = k := hx
  obtain ⟨h1, h2⟩ := zu1 h
  rw [hx] at h1
  cases r with
  | nil => cases hf
  | cons y r =>
    cases r with
    | nil => cases hf
    | cons z r =>
      have hf : some (g (Jvm.ClassFile.Reader.signed 16 (y.toNat * 256 + z.toNat)), 3, r) = some (j, n, t) := hf
      cases hf
      exact ⟨zdk (hF p) h1 (zXs2 h2), (zu1 (zu1 h2).2).2⟩
theorem zGi {k : Nat} (hF : ∀ p, ∃ F : Nat → zDc Instr, Jvm.ClassFile.Decoder.instr p = (zU1 >>= F) ∧ F k = (do Pure.pure (.iinc (← Jvm.ClassFile.Reader.u1) (← Jvm.ClassFile.Reader.s1)))) : zGd (k, zfi) := by
  intro b p x r j n t hx h hf
  have hx : x.toNat = k := hx
  obtain ⟨h1, h2⟩ := zu1 h
  rw [hx] at h1
  cases r with
  | nil => cases hf
  | cons y r =>
    cases r with
    | nil => cases hf
    | cons z r =>
      have hf : some (Instr.iinc y.toNat (Jvm.ClassFile.Reader.signed 8 z.toNat), 3, r) = some (j, n, t) := hf
      cases hf
      exact ⟨zdk (hF p) h1 (zXi h2), (zu1 (zu1 h2).2).2⟩
theorem zo_42 : zGd (42, zf0 (.aload_n 0)) := zG0 (fun p => ⟨_, rfl, rfl⟩)
theorem zo_43 : zGd (43, zf0 (.aload_n 1)) := zG0 (fun p => ⟨_, rfl, rfl⟩)
theorem zo_44 : zGd (44, zf0 (.aload_n 2)) := zG0 (fun p => ⟨_, rfl, rfl⟩)
theorem zo_45 : zGd (45, zf0 (.aload_n 3)) := zG0 (fun p => ⟨_, rfl, rfl⟩)
theorem zo_26 : zGd (26, zf0 (.iload_n 0)) := zG0 (fun p => ⟨_, rfl, rfl⟩)
theorem zo_27 : zGd (27, zf0 (.iload_n 1)) := zG0 (fun p => ⟨_, rfl, rfl⟩)
theorem zo_28 : zGd (28, zf0 (.iload_n 2)) := zG0 (fun p => ⟨_, rfl, rfl⟩)
theorem zo_29 : zGd (29, zf0 (.iload_n 3)) := zG0 (fun p => ⟨_, rfl, rfl⟩)
theorem zo_180 : zGd (180, zf2 (fun z => .getfield z)) := zG2 (fun p => ⟨_, rfl, rfl⟩)
theorem zo_2 : zGd (2, zf0 (.iconst (-1))) := zG0 (fun p => ⟨_, rfl, rfl⟩)
theorem zo_3 : zGd (3, zf0 (.iconst 0)) := zG0 (fun p => ⟨_, rfl, rfl⟩)
theorem zo_4 : zGd (4, zf0 (.iconst 1)) := zG0 (fun p => ⟨_, rfl, rfl⟩)
theorem zo_5 : zGd (5, zf0 (.iconst 2)) := zG0 (fun p => ⟨_, rfl, rfl⟩)
theorem zo_6 : zGd (6, zf0 (.iconst 3)) := zG0 (fun p => ⟨_, rfl, rfl⟩)
theorem zo_7 : zGd (7, zf0 (.iconst 4)) := zG0 (fun p => ⟨_, rfl, rfl⟩)
theorem zo_8 : zGd (8, zf0 (.iconst 5)) := zG0 (fun p => ⟨_, rfl, rfl⟩)
theorem zo_182 : zGd (182, zf2 (fun z => .invokevirtual z)) := zG2 (fun p => ⟨_, rfl, rfl⟩)
theorem zo_172 : zGd (172, zf0 (.ireturn)) := zG0 (fun p => ⟨_, rfl, rfl⟩)
theorem zo_153 : zGd (153, zfs2 (fun z => .ifCond .eq z)) := zGs2 (fun p => ⟨_, rfl, rfl⟩)
theorem zo_154 : zGd (154, zfs2 (fun z => .ifCond .ne z)) := zGs2 (fun p => ⟨_, rfl, rfl⟩)
theorem zo_155 : zGd (155, zfs2 (fun z => .ifCond .lt z)) := zGs2 (fun p => ⟨_, rfl, rfl⟩)
theorem zo_156 : zGd (156, zfs2 (fun z => .ifCond .ge z)) := zGs2 (fun p => ⟨_, rfl, rfl⟩)
theorem zo_157 : zGd (157, zfs2 (fun z => .ifCond .gt z)) := zGs2 (fun p => ⟨_, rfl, rfl⟩)
theorem zo_158 : zGd (158, zfs2 (fun z => .ifCond .le z)) := zGs2 (fun p => ⟨_, rfl, rfl⟩)
theorem zo_46 : zGd (46, zf0 (.iaload)) := zG0 (fun p => ⟨_, rfl, rfl⟩)
theorem zo_167 : zGd (167, zfs2 (fun z => .goto z)) := zGs2 (fun p => ⟨_, rfl, rfl⟩)
theorem zo_159 : zGd (159, zfs2 (fun z => .if_icmp .eq z)) := zGs2 (fun p => ⟨_, rfl, rfl⟩)
theorem zo_160 : zGd (160, zfs2 (fun z => .if_icmp .ne z)) := zGs2 (fun p => ⟨_, rfl, rfl⟩)
theorem zo_161 : zGd (161, zfs2 (fun z => .if_icmp .lt z)) := zGs2 (fun p => ⟨_, rfl, rfl⟩)
theorem zo_162 : zGd (162, zfs2 (fun z => .if_icmp .ge z)) := zGs2 (fun p => ⟨_, rfl, rfl⟩)
theorem zo_163 : zGd (163, zfs2 (fun z => .if_icmp .gt z)) := zGs2 (fun p => ⟨_, rfl, rfl⟩)
theorem zo_164 : zGd (164, zfs2 (fun z => .if_icmp .le z)) := zGs2 (fun p => ⟨_, rfl, rfl⟩)
theorem zo_16 : zGd (16, zfs1 (fun z => .bipush z)) := zGs1 (fun p => ⟨_, rfl, rfl⟩)
theorem zo_96 : zGd (96, zf0 (.iadd)) := zG0 (fun p => ⟨_, rfl, rfl⟩)
theorem zo_21 : zGd (21, zf1 (fun z => .iload z)) := zG1 (fun p => ⟨_, rfl, rfl⟩)
theorem zo_59 : zGd (59, zf0 (.istore_n 0)) := zG0 (fun p => ⟨_, rfl, rfl⟩)
theorem zo_60 : zGd (60, zf0 (.istore_n 1)) := zG0 (fun p => ⟨_, rfl, rfl⟩)
theorem zo_61 : zGd (61, zf0 (.istore_n 2)) := zG0 (fun p => ⟨_, rfl, rfl⟩)
theorem zo_62 : zGd (62, zf0 (.istore_n 3)) := zG0 (fun p => ⟨_, rfl, rfl⟩)
theorem zo_184 : zGd (184, zf2 (fun z => .invokestatic z)) := zG2 (fun p => ⟨_, rfl, rfl⟩)
theorem zo_79 : zGd (79, zf0 (.iastore)) := zG0 (fun p => ⟨_, rfl, rfl⟩)
theorem zo_87 : zGd (87, zf0 (.pop)) := zG0 (fun p => ⟨_, rfl, rfl⟩)
theorem zo_181 : zGd (181, zf2 (fun z => .putfield z)) := zG2 (fun p => ⟨_, rfl, rfl⟩)
theorem zo_54 : zGd (54, zf1 (fun z => .istore z)) := zG1 (fun p => ⟨_, rfl, rfl⟩)
theorem zo_132 : zGd (132, zfi) := zGi (fun p => ⟨_, rfl, rfl⟩)
theorem zo_100 : zGd (100, zf0 (.isub)) := zG0 (fun p => ⟨_, rfl, rfl⟩)
theorem zo_9 : zGd (9, zf0 (.lconst 0)) := zG0 (fun p => ⟨_, rfl, rfl⟩)
theorem zo_10 : zGd (10, zf0 (.lconst 1)) := zG0 (fun p => ⟨_, rfl, rfl⟩)
theorem zo_17 : zGd (17, zfs2 (fun z => .sipush z)) := zGs2 (fun p => ⟨_, rfl, rfl⟩)
theorem zo_18 : zGd (18, zf1 (fun z => .ldc z)) := zG1 (fun p => ⟨_, rfl, rfl⟩)
theorem zo_19 : zGd (19, zf2 (fun z => .ldc_w z)) := zG2 (fun p => ⟨_, rfl, rfl⟩)
theorem zo_20 : zGd (20, zf2 (fun z => .ldc2_w z)) := zG2 (fun p => ⟨_, rfl, rfl⟩)
theorem zo_22 : zGd (22, zf1 (fun z => .lload z)) := zG1 (fun p => ⟨_, rfl, rfl⟩)
theorem zo_30 : zGd (30, zf0 (.lload_n 0)) := zG0 (fun p => ⟨_, rfl, rfl⟩)
theorem zo_31 : zGd (31, zf0 (.lload_n 1)) := zG0 (fun p => ⟨_, rfl, rfl⟩)
theorem zo_32 : zGd (32, zf0 (.lload_n 2)) := zG0 (fun p => ⟨_, rfl, rfl⟩)
theorem zo_33 : zGd (33, zf0 (.lload_n 3)) := zG0 (fun p => ⟨_, rfl, rfl⟩)
theorem zo_47 : zGd (47, zf0 (.laload)) := zG0 (fun p => ⟨_, rfl, rfl⟩)
theorem zo_50 : zGd (50, zf0 (.aaload)) := zG0 (fun p => ⟨_, rfl, rfl⟩)
theorem zo_51 : zGd (51, zf0 (.baload)) := zG0 (fun p => ⟨_, rfl, rfl⟩)
theorem zo_63 : zGd (63, zf0 (.lstore_n 0)) := zG0 (fun p => ⟨_, rfl, rfl⟩)
theorem zo_64 : zGd (64, zf0 (.lstore_n 1)) := zG0 (fun p => ⟨_, rfl, rfl⟩)
theorem zo_65 : zGd (65, zf0 (.lstore_n 2)) := zG0 (fun p => ⟨_, rfl, rfl⟩)
theorem zo_66 : zGd (66, zf0 (.lstore_n 3)) := zG0 (fun p => ⟨_, rfl, rfl⟩)
theorem zo_75 : zGd (75, zf0 (.astore_n 0)) := zG0 (fun p => ⟨_, rfl, rfl⟩)
theorem zo_76 : zGd (76, zf0 (.astore_n 1)) := zG0 (fun p => ⟨_, rfl, rfl⟩)
theorem zo_77 : zGd (77, zf0 (.astore_n 2)) := zG0 (fun p => ⟨_, rfl, rfl⟩)
theorem zo_78 : zGd (78, zf0 (.astore_n 3)) := zG0 (fun p => ⟨_, rfl, rfl⟩)
theorem zo_80 : zGd (80, zf0 (.lastore)) := zG0 (fun p => ⟨_, rfl, rfl⟩)
theorem zo_89 : zGd (89, zf0 (.dup)) := zG0 (fun p => ⟨_, rfl, rfl⟩)
theorem zo_92 : zGd (92, zf0 (.dup2)) := zG0 (fun p => ⟨_, rfl, rfl⟩)
theorem zo_97 : zGd (97, zf0 (.ladd)) := zG0 (fun p => ⟨_, rfl, rfl⟩)
theorem zo_104 : zGd (104, zf0 (.imul)) := zG0 (fun p => ⟨_, rfl, rfl⟩)
theorem zo_105 : zGd (105, zf0 (.lmul)) := zG0 (fun p => ⟨_, rfl, rfl⟩)
theorem zo_108 : zGd (108, zf0 (.idiv)) := zG0 (fun p => ⟨_, rfl, rfl⟩)
theorem zo_112 : zGd (112, zf0 (.irem)) := zG0 (fun p => ⟨_, rfl, rfl⟩)
theorem zo_116 : zGd (116, zf0 (.ineg)) := zG0 (fun p => ⟨_, rfl, rfl⟩)
theorem zo_120 : zGd (120, zf0 (.ishl)) := zG0 (fun p => ⟨_, rfl, rfl⟩)
theorem zo_121 : zGd (121, zf0 (.lshl)) := zG0 (fun p => ⟨_, rfl, rfl⟩)
theorem zo_122 : zGd (122, zf0 (.ishr)) := zG0 (fun p => ⟨_, rfl, rfl⟩)
theorem zo_123 : zGd (123, zf0 (.lshr)) := zG0 (fun p => ⟨_, rfl, rfl⟩)
theorem zo_124 : zGd (124, zf0 (.iushr)) := zG0 (fun p => ⟨_, rfl, rfl⟩)
theorem zo_125 : zGd (125, zf0 (.lushr)) := zG0 (fun p => ⟨_, rfl, rfl⟩)
theorem zo_126 : zGd (126, zf0 (.iand)) := zG0 (fun p => ⟨_, rfl, rfl⟩)
theorem zo_127 : zGd (127, zf0 (.land)) := zG0 (fun p => ⟨_, rfl, rfl⟩)
theorem zo_128 : zGd (128, zf0 (.ior)) := zG0 (fun p => ⟨_, rfl, rfl⟩)
theorem zo_129 : zGd (129, zf0 (.lor)) := zG0 (fun p => ⟨_, rfl, rfl⟩)
theorem zo_130 : zGd (130, zf0 (.ixor)) := zG0 (fun p => ⟨_, rfl, rfl⟩)
theorem zo_133 : zGd (133, zf0 (.i2l)) := zG0 (fun p => ⟨_, rfl, rfl⟩)
theorem zo_136 : zGd (136, zf0 (.l2i)) := zG0 (fun p => ⟨_, rfl, rfl⟩)
theorem zo_145 : zGd (145, zf0 (.i2b)) := zG0 (fun p => ⟨_, rfl, rfl⟩)
theorem zo_146 : zGd (146, zf0 (.i2c)) := zG0 (fun p => ⟨_, rfl, rfl⟩)
theorem zo_147 : zGd (147, zf0 (.i2s)) := zG0 (fun p => ⟨_, rfl, rfl⟩)
theorem zo_148 : zGd (148, zf0 (.lcmp)) := zG0 (fun p => ⟨_, rfl, rfl⟩)
theorem zo_173 : zGd (173, zf0 (.lreturn)) := zG0 (fun p => ⟨_, rfl, rfl⟩)
theorem zo_177 : zGd (177, zf0 (.return_)) := zG0 (fun p => ⟨_, rfl, rfl⟩)
theorem zo_178 : zGd (178, zf2 (fun z => .getstatic z)) := zG2 (fun p => ⟨_, rfl, rfl⟩)
theorem zo_183 : zGd (183, zf2 (fun z => .invokespecial z)) := zG2 (fun p => ⟨_, rfl, rfl⟩)
theorem zo_187 : zGd (187, zf2 (fun z => .new z)) := zG2 (fun p => ⟨_, rfl, rfl⟩)
theorem zo_190 : zGd (190, zf0 (.arraylength)) := zG0 (fun p => ⟨_, rfl, rfl⟩)
theorem zo_191 : zGd (191, zf0 (.athrow)) := zG0 (fun p => ⟨_, rfl, rfl⟩)
def zops : List (Nat × zfT) := [(42, zf0 (.aload_n 0)), (43, zf0 (.aload_n 1)), (44, zf0 (.aload_n 2)), (45, zf0 (.aload_n 3)), (26, zf0 (.iload_n 0)), (27, zf0 (.iload_n 1)), (28, zf0 (.iload_n 2)), (29, zf0 (.iload_n 3)), (180, zf2 (fun z => .getfield z)), (2, zf0 (.iconst (-1))), (3, zf0 (.iconst 0)), (4, zf0 (.iconst 1)), (5, zf0 (.iconst 2)), (6, zf0 (.iconst 3)), (7, zf0 (.iconst 4)), (8, zf0 (.iconst 5)), (182, zf2 (fun z => .invokevirtual z)), (172, zf0 (.ireturn)), (153, zfs2 (fun z => .ifCond .eq z)), (154, zfs2 (fun z => .ifCond .ne z)), (155, zfs2 (fun z => .ifCond .lt z)), (156, zfs2 (fun z => .ifCond .ge z)), (157, zfs2 (fun z => .ifCond .gt z)), (158, zfs2 (fun z => .ifCond .le z)), (46, zf0 (.iaload)), (167, zfs2 (fun z => .goto z)), (159, zfs2 (fun z => .if_icmp .eq z)), (160, zfs2 (fun z => .if_icmp .ne z)), (161, zfs2 (fun z => .if_icmp .lt z)), (162, zfs2 (fun z => .if_icmp .ge z)), (163, zfs2 (fun z => .if_icmp .gt z)), (164, zfs2 (fun z => .if_icmp .le z)), (16, zfs1 (fun z => .bipush z)), (96, zf0 (.iadd)), (21, zf1 (fun z => .iload z)), (59, zf0 (.istore_n 0)), (60, zf0 (.istore_n 1)), (61, zf0 (.istore_n 2)), (62, zf0 (.istore_n 3)), (184, zf2 (fun z => .invokestatic z)), (79, zf0 (.iastore)), (87, zf0 (.pop)), (181, zf2 (fun z => .putfield z)), (54, zf1 (fun z => .istore z)), (132, zfi), (100, zf0 (.isub)), (9, zf0 (.lconst 0)), (10, zf0 (.lconst 1)), (17, zfs2 (fun z => .sipush z)), (18, zf1 (fun z => .ldc z)), (19, zf2 (fun z => .ldc_w z)), (20, zf2 (fun z => .ldc2_w z)), (22, zf1 (fun z => .lload z)), (30, zf0 (.lload_n 0)), (31, zf0 (.lload_n 1)), (32, zf0 (.lload_n 2)), (33, zf0 (.lload_n 3)), (47, zf0 (.laload)), (50, zf0 (.aaload)), (51, zf0 (.baload)), (63, zf0 (.lstore_n 0)), (64, zf0 (.lstore_n 1)), (65, zf0 (.lstore_n 2)), (66, zf0 (.lstore_n 3)), (75, zf0 (.astore_n 0)), (76, zf0 (.astore_n 1)), (77, zf0 (.astore_n 2)), (78, zf0 (.astore_n 3)), (80, zf0 (.lastore)), (89, zf0 (.dup)), (92, zf0 (.dup2)), (97, zf0 (.ladd)), (104, zf0 (.imul)), (105, zf0 (.lmul)), (108, zf0 (.idiv)), (112, zf0 (.irem)), (116, zf0 (.ineg)), (120, zf0 (.ishl)), (121, zf0 (.lshl)), (122, zf0 (.ishr)), (123, zf0 (.lshr)), (124, zf0 (.iushr)), (125, zf0 (.lushr)), (126, zf0 (.iand)), (127, zf0 (.land)), (128, zf0 (.ior)), (129, zf0 (.lor)), (130, zf0 (.ixor)), (133, zf0 (.i2l)), (136, zf0 (.l2i)), (145, zf0 (.i2b)), (146, zf0 (.i2c)), (147, zf0 (.i2s)), (148, zf0 (.lcmp)), (173, zf0 (.lreturn)), (177, zf0 (.return_)), (178, zf2 (fun z => .getstatic z)), (183, zf2 (fun z => .invokespecial z)), (187, zf2 (fun z => .new z)), (190, zf0 (.arraylength)), (191, zf0 (.athrow))]
theorem zops_g : ∀ e ∈ zops, zGd e := List.forall_mem_cons.mpr ⟨zo_42, List.forall_mem_cons.mpr ⟨zo_43, List.forall_mem_cons.mpr ⟨zo_44, List.forall_mem_cons.mpr ⟨zo_45, List.forall_mem_cons.mpr ⟨zo_26, List.forall_mem_cons.mpr ⟨zo_27, List.forall_mem_cons.mpr ⟨zo_28, List.forall_mem_cons.mpr ⟨zo_29, List.forall_mem_cons.mpr ⟨zo_180, List.forall_mem_cons.mpr ⟨zo_2, List.forall_mem_cons.mpr ⟨zo_3, List.forall_mem_cons.mpr ⟨zo_4, List.forall_mem_cons.mpr ⟨zo_5, List.forall_mem_cons.mpr ⟨zo_6, List.forall_mem_cons.mpr ⟨zo_7, List.forall_mem_cons.mpr ⟨zo_8, List.forall_mem_cons.mpr ⟨zo_182, List.forall_mem_cons.mpr ⟨zo_172, List.forall_mem_cons.mpr ⟨zo_153, List.forall_mem_cons.mpr ⟨zo_154, List.forall_mem_cons.mpr ⟨zo_155, List.forall_mem_cons.mpr ⟨zo_156, List.forall_mem_cons.mpr ⟨zo_157, List.forall_mem_cons.mpr ⟨zo_158, List.forall_mem_cons.mpr ⟨zo_46, List.forall_mem_cons.mpr ⟨zo_167, List.forall_mem_cons.mpr ⟨zo_159, List.forall_mem_cons.mpr ⟨zo_160, List.forall_mem_cons.mpr ⟨zo_161, List.forall_mem_cons.mpr ⟨zo_162, List.forall_mem_cons.mpr ⟨zo_163, List.forall_mem_cons.mpr ⟨zo_164, List.forall_mem_cons.mpr ⟨zo_16, List.forall_mem_cons.mpr ⟨zo_96, List.forall_mem_cons.mpr ⟨zo_21, List.forall_mem_cons.mpr ⟨zo_59, List.forall_mem_cons.mpr ⟨zo_60, List.forall_mem_cons.mpr ⟨zo_61, List.forall_mem_cons.mpr ⟨zo_62, List.forall_mem_cons.mpr ⟨zo_184, List.forall_mem_cons.mpr ⟨zo_79, List.forall_mem_cons.mpr ⟨zo_87, List.forall_mem_cons.mpr ⟨zo_181, List.forall_mem_cons.mpr ⟨zo_54, List.forall_mem_cons.mpr ⟨zo_132, List.forall_mem_cons.mpr ⟨zo_100, List.forall_mem_cons.mpr ⟨zo_9, List.forall_mem_cons.mpr ⟨zo_10, List.forall_mem_cons.mpr ⟨zo_17, List.forall_mem_cons.mpr ⟨zo_18, List.forall_mem_cons.mpr ⟨zo_19, List.forall_mem_cons.mpr ⟨zo_20, List.forall_mem_cons.mpr ⟨zo_22, List.forall_mem_cons.mpr ⟨zo_30, List.forall_mem_cons.mpr ⟨zo_31, List.forall_mem_cons.mpr ⟨zo_32, List.forall_mem_cons.mpr ⟨zo_33, List.forall_mem_cons.mpr ⟨zo_47, List.forall_mem_cons.mpr ⟨zo_50, List.forall_mem_cons.mpr ⟨zo_51, List.forall_mem_cons.mpr ⟨zo_63, List.forall_mem_cons.mpr ⟨zo_64, List.forall_mem_cons.mpr ⟨zo_65, List.forall_mem_cons.mpr ⟨zo_66, List.forall_mem_cons.mpr ⟨zo_75, List.forall_mem_cons.mpr ⟨zo_76, List.forall_mem_cons.mpr ⟨zo_77, List.forall_mem_cons.mpr ⟨zo_78, List.forall_mem_cons.mpr ⟨zo_80, List.forall_mem_cons.mpr ⟨zo_89, List.forall_mem_cons.mpr ⟨zo_92, List.forall_mem_cons.mpr ⟨zo_97, List.forall_mem_cons.mpr ⟨zo_104, List.forall_mem_cons.mpr ⟨zo_105, List.forall_mem_cons.mpr ⟨zo_108, List.forall_mem_cons.mpr ⟨zo_112, List.forall_mem_cons.mpr ⟨zo_116, List.forall_mem_cons.mpr ⟨zo_120, List.forall_mem_cons.mpr ⟨zo_121, List.forall_mem_cons.mpr ⟨zo_122, List.forall_mem_cons.mpr ⟨zo_123, List.forall_mem_cons.mpr ⟨zo_124, List.forall_mem_cons.mpr ⟨zo_125, List.forall_mem_cons.mpr ⟨zo_126, List.forall_mem_cons.mpr ⟨zo_127, List.forall_mem_cons.mpr ⟨zo_128, List.forall_mem_cons.mpr ⟨zo_129, List.forall_mem_cons.mpr ⟨zo_130, List.forall_mem_cons.mpr ⟨zo_133, List.forall_mem_cons.mpr ⟨zo_136, List.forall_mem_cons.mpr ⟨zo_145, List.forall_mem_cons.mpr ⟨zo_146, List.forall_mem_cons.mpr ⟨zo_147, List.forall_mem_cons.mpr ⟨zo_148, List.forall_mem_cons.mpr ⟨zo_173, List.forall_mem_cons.mpr ⟨zo_177, List.forall_mem_cons.mpr ⟨zo_178, List.forall_mem_cons.mpr ⟨zo_183, List.forall_mem_cons.mpr ⟨zo_187, List.forall_mem_cons.mpr ⟨zo_190, List.forall_mem_cons.mpr ⟨zo_191, fun _ h => absurd h List.not_mem_nil⟩⟩⟩⟩⟩⟩⟩⟩⟩⟩⟩⟩⟩⟩⟩⟩⟩⟩⟩⟩⟩⟩⟩⟩⟩⟩⟩⟩⟩⟩⟩⟩⟩⟩⟩⟩⟩⟩⟩⟩⟩⟩⟩⟩⟩⟩⟩⟩⟩⟩⟩⟩⟩⟩⟩⟩⟩⟩⟩⟩⟩⟩⟩⟩⟩⟩⟩⟩⟩⟩⟩⟩⟩⟩⟩⟩⟩⟩⟩⟩⟩⟩⟩⟩⟩⟩⟩⟩⟩⟩⟩⟩⟩⟩⟩⟩⟩⟩⟩⟩⟩
def zdcd (l : List UInt8) : Option (Instr × Nat × List UInt8) := match l with
  | [] => none
  | x :: r => match zops.find? (fun e => Nat.beq e.1 x.toNat) with
    | some e => e.2 r
    | none => none
theorem zdcd_s {b : ByteArray} {p : Nat} {l t : List UInt8} {i : Instr} {n : Nat} (hl : l = b.data.toList.drop p) (h : zdcd l = some (i, n, t)) : decode b p = .ok (i, n) ∧ b.data.toList.drop (p + n) = t := by
  cases l with
  | nil => cases h
  | cons x r =>
    have h : (match zops.find? (fun e => Nat.beq e.1 x.toNat) with | some e => e.2 r | none => none) = some (i, n, t) := h
    cases q : zops.find? (fun e => Nat.beq e.1 x.toNat) with
    | none => rw [q] at h; cases h
    | some e =>
      rw [q] at h
      have h1 := List.find?_some q
      exact zops_g e (List.mem_of_find?_eq_some q) b p x r i n t (Nat.eq_of_beq_eq_true h1).symm hl.symm h
def zxm (i : Instr) : Bool := match i with
  | .new _ => true
  | .invokespecial _ => true
  | .astore_n _ => true
  | .athrow => true
  | _ => false
def zfL (b : ByteArray) (own nL : Nat) : Nat → List UInt8 → List (Nat × zE) → Bool
  | _, _, [] => true
  | pos, l, q :: es => Nat.ble pos q.1 && (match zdcd (l.drop (q.1 - pos)) with
      | some (i, n, t) => (zxm q.2.1 || (decide (i = q.2.1) && (Nat.beq (q.2.2.1 - q.1) n && zck1 own nL q.1 q.2))) && zfL b own nL (q.1 + n) t es
      | none => (zxm q.2.1 || zck b own nL q) && zfL b own nL pos l es)
theorem zfL_s {b : ByteArray} {own nL : Nat} : ∀ (es : List (Nat × zE)) (pos : Nat) (l : List UInt8), l = b.data.toList.drop pos → zfL b own nL pos l es = true → ∀ q ∈ es, zxm q.2.1 = true ∨ zck b own nL q = true
  | [], _, _, _, _ => fun _ h => absurd h List.not_mem_nil
  | q :: es, pos, l, hl, h => by
    have h : (Nat.ble pos q.1 && (match zdcd (l.drop (q.1 - pos)) with
      | some (i, n, t) => (zxm q.2.1 || (decide (i = q.2.1) && (Nat.beq (q.2.2.1 - q.1) n && zck1 own nL q.1 q.2))) && zfL b own nL (q.1 + n) t es
      | none => (zxm q.2.1 || zck b own nL q) && zfL b own nL pos l es)) = true := h
    rw [Bool.and_eq_true] at h
    obtain ⟨h0, h⟩ := h
    have h0 := Nat.le_of_ble_eq_true h0
    have hd : l.drop (q.1 - pos) = b.data.toList.drop q.1 := by
      rw [hl, List.drop_drop]
      congr 1
      omega
    cases z : zdcd (l.drop (q.1 - pos)) with
    | none =>
      rw [z] at h
      have h : ((zxm q.2.1 || zck b own nL q) && zfL b own nL pos l es) = true := h
      rw [Bool.and_eq_true, Bool.or_eq_true] at h
      exact List.forall_mem_cons.mpr ⟨h.1, zfL_s es pos l hl h.2⟩
    | some r =>
      obtain ⟨i, n, t⟩ := r
      rw [z] at h
      have h : ((zxm q.2.1 || (decide (i = q.2.1) && (Nat.beq (q.2.2.1 - q.1) n && zck1 own nL q.1 q.2))) && zfL b own nL (q.1 + n) t es) = true := h
      rw [Bool.and_eq_true, Bool.or_eq_true] at h
      obtain ⟨d1, d2⟩ := zdcd_s hd z
      refine List.forall_mem_cons.mpr ⟨?_, zfL_s es (q.1 + n) t d2.symm h.2⟩
      rcases h.1 with h1 | h1
      · exact Or.inl h1
      · rw [Bool.and_eq_true, Bool.and_eq_true] at h1
        refine Or.inr ?_
        have e1 : i = q.2.1 := of_decide_eq_true h1.1
        have e2 : q.2.2.1 - q.1 = n := Nat.eq_of_beq_eq_true h1.2.1
        unfold zck
        rw [Bool.and_eq_true, e2, ← e1]
        exact ⟨decide_eq_true d1, h1.2.2⟩
theorem zxm_i {i : Instr} (h : zxm i = true) : (∃ a, i = .new a) ∨ (∃ a, i = .invokespecial a) ∨ (∃ a, i = .astore_n a) ∨ i = .athrow := by
  cases i <;> first | exact Or.inl ⟨_, rfl⟩ | exact Or.inr (Or.inl ⟨_, rfl⟩) | exact Or.inr (Or.inr (Or.inl ⟨_, rfl⟩)) | exact Or.inr (Or.inr (Or.inr rfl)) | cases h
def zckF (b : ByteArray) (T : zT) : Bool := zfL b T.1 T.2.2.2 0 b.data.toList T.2.1.flatten
theorem zckF_ok {b : ByteArray} {T : zT} (h : zckF b T = true) : zckM b T = true := by
  have k := zfL_s T.2.1.flatten 0 b.data.toList rfl h
  refine List.all_eq_true.mpr fun ch hch => List.all_eq_true.mpr fun q hq => ?_
  rcases k q (List.mem_flatten.mpr ⟨ch, hch, hq⟩) with h1 | h1
  · rcases zxm_i h1 with ⟨a, e⟩ | ⟨a, e⟩ | ⟨a, e⟩ | e <;> (simp only [e])
  · split
    · rfl
    · rfl
    · rfl
    · rfl
    · exact h1
def zpc0 (ch : List (Nat × zE)) : Nat := match ch with
  | [] => 0
  | q :: _ => q.1
