set_option maxRecDepth 100000
def zGV : Cond := .and given_1 narrow_1
def zSB : List Nat := [9, 18, 28, 37, 47, 62, 76, 90, 105, 120, 135, 152, 170, 188, 208, 230, 253, 278]
def zSR : List Nat := [603, 656, 657, 658, 659, 660, 661, 662, 663, 664, 665, 666, 667, 668, 669, 670, 671, 672]
def ztm (i : Nat) : Term := .string RX10 (zSI.getD i (0, "", 0)).1
theorem zw_str : ∀ i, i < 18 → (flatC zGV)[zSB.getD i 0]? = some (.exactly (ztm i) "java/lang/String") ∧ (flatC zGV)[zSB.getD i 0 + 1]? = some (.eq (.field (ztm i) "java/lang/String" "coder" "B") (.int 0)) ∧ (flatC zGV)[zSB.getD i 0 + 2]? = some (.arrayOf (.field (ztm i) "java/lang/String" "value" "[B") .byte) ∧ (flatC zGV)[zSB.getD i 0 + 3]? = some (.eq (.length (.field (ztm i) "java/lang/String" "value" "[B")) (.int (Int32.ofNat ((zSL.map List.length).getD i 0)))) ∧ (∀ j, j < (zSL.map List.length).getD i 0 → (flatC zGV)[zSB.getD i 0 + 4 + j]? = some (.eq (.elem (.field (ztm i) "java/lang/String" "value" "[B") (.int (Int32.ofNat j))) (.int ((zSL.getD i []).getD j 0)))) ∧ (∀ k, k < i → (flatC zGV)[zSB.getD i 0 + 4 + (zSL.map List.length).getD i 0 + k]? = some (.not (.eq (ztm k) (ztm i)))) ∧ (zSL.map List.length).getD i 0 < 2 ^ 31 := by decide +kernel
theorem zw_ref : ∀ i, i < 18 → lw_tbl[zSR.getD i 0]? = some (.stringRef RX10 (zSI.getD i (0, "", 0)).1 (zSI.getD i (0, "", 0)).2.1) := by decide +kernel
theorem zw_si : zSI.length = 18 ∧ ∀ q ∈ zSI, q.2.2 < 18 ∧ zSI.getD q.2.2 (0, "", 0) = q := by decide +kernel
theorem zw_cs : Cond.laysStatic "java/lang/String" "COMPACT_STRINGS" "Z" ∈ lw_tbl ∧ Cond.initialized "java/lang/String" ∈ lw_tbl ∧ Cond.eq (.static "java/lang/String" "COMPACT_STRINGS" "Z") (.int 1) ∈ flatC zGV := ⟨List.mem_of_getElem? (i := 617) (by decide +kernel), List.mem_of_getElem? (i := 108) (by decide +kernel), List.mem_of_getElem? (i := 4) (by decide +kernel)⟩
theorem zw_sf : Cond.laysStatic "jdk/internal/util/Preconditions" "SIOOBE_FORMATTER" "Ljava/util/function/BiFunction;" ∈ lw_tbl ∧ Cond.initialized "jdk/internal/util/Preconditions" ∈ lw_tbl ∧ Cond.isRef (.static "jdk/internal/util/Preconditions" "SIOOBE_FORMATTER" "Ljava/util/function/BiFunction;") ∈ flatC zGV := ⟨List.mem_of_getElem? (i := 633) (by decide +kernel), List.mem_of_getElem? (i := 110) (by decide +kernel), List.mem_of_getElem? (i := 5) (by decide +kernel)⟩
theorem zw_ao : Cond.arrayOver (.array .int) ∈ lw_tbl ∧ Cond.arrayOver (.array .long) ∈ lw_tbl := ⟨List.mem_of_getElem? (i := 374) (by decide +kernel), List.mem_of_getElem? (i := 391) (by decide +kernel)⟩
theorem zw_yn : ∀ q ∈ yNest, Cond.methodLinkNest q.1 q.2.1 q.2.2.1 q.2.2.2 ∈ lw_tbl := List.forall_mem_cons.mpr ⟨List.mem_of_getElem? (i := 136) (by decide +kernel), List.forall_mem_cons.mpr ⟨List.mem_of_getElem? (i := 130) (by decide +kernel), List.forall_mem_cons.mpr ⟨List.mem_of_getElem? (i := 220) (by decide +kernel), List.forall_mem_cons.mpr ⟨List.mem_of_getElem? (i := 250) (by decide +kernel), List.forall_mem_cons.mpr ⟨List.mem_of_getElem? (i := 319) (by decide +kernel), List.forall_mem_cons.mpr ⟨List.mem_of_getElem? (i := 350) (by decide +kernel), List.forall_mem_cons.mpr ⟨List.mem_of_getElem? (i := 124) (by decide +kernel), List.forall_mem_cons.mpr ⟨List.mem_of_getElem? (i := 299) (by decide +kernel), List.forall_mem_cons.mpr ⟨List.mem_of_getElem? (i := 314) (by decide +kernel), List.forall_mem_cons.mpr ⟨List.mem_of_getElem? (i := 345) (by decide +kernel), List.forall_mem_cons.mpr ⟨List.mem_of_getElem? (i := 369) (by decide +kernel), List.forall_mem_cons.mpr ⟨List.mem_of_getElem? (i := 418) (by decide +kernel), fun _ h => absurd h List.not_mem_nil⟩⟩⟩⟩⟩⟩⟩⟩⟩⟩⟩⟩
theorem zw_zn : ∀ q ∈ zNest, Cond.methodLinkNest q.1 q.2.1 q.2.2.1 q.2.2.2 ∈ lw_tbl := List.forall_mem_cons.mpr ⟨List.mem_of_getElem? (i := 825) (by decide +kernel), List.forall_mem_cons.mpr ⟨List.mem_of_getElem? (i := 494) (by decide +kernel), List.forall_mem_cons.mpr ⟨List.mem_of_getElem? (i := 831) (by decide +kernel), List.forall_mem_cons.mpr ⟨List.mem_of_getElem? (i := 836) (by decide +kernel), List.forall_mem_cons.mpr ⟨List.mem_of_getElem? (i := 685) (by decide +kernel), List.forall_mem_cons.mpr ⟨List.mem_of_getElem? (i := 738) (by decide +kernel), List.forall_mem_cons.mpr ⟨List.mem_of_getElem? (i := 517) (by decide +kernel), List.forall_mem_cons.mpr ⟨List.mem_of_getElem? (i := 912) (by decide +kernel), fun _ h => absurd h List.not_mem_nil⟩⟩⟩⟩⟩⟩⟩⟩
theorem zw_in : ∀ c, c < 13 → Cond.instantiable (zcn c) (zNF c) ∈ zGW ∧ Cond.initialized (zcn c) ∈ zGW
  | 0, _ => ⟨zmq2 (n := 84) (by decide +kernel), zmq1 (n := 12) (by decide +kernel)⟩
  | 1, _ => ⟨zmq1 (n := 36) (by decide +kernel), zmq1 (n := 3) (by decide +kernel)⟩
  | 2, _ => ⟨zmq2 (n := 52) (by decide +kernel), zmq1 (n := 11) (by decide +kernel)⟩
  | 3, _ => ⟨zmq1 (n := 30) (by decide +kernel), zmq1 (n := 2) (by decide +kernel)⟩
  | 4, _ => ⟨zmq1 (n := 126) (by decide +kernel), zmq1 (n := 5) (by decide +kernel)⟩
  | 5, _ => ⟨zmq1 (n := 156) (by decide +kernel), zmq1 (n := 6) (by decide +kernel)⟩
  | 6, _ => ⟨zmq2 (n := 35) (by decide +kernel), zmq1 (n := 10) (by decide +kernel)⟩
  | 7, _ => ⟨zmq1 (n := 220) (by decide +kernel), zmq1 (n := 8) (by decide +kernel)⟩
  | 8, _ => ⟨zmq1 (n := 42) (by decide +kernel), zmq1 (n := 4) (by decide +kernel)⟩
  | 9, _ => ⟨zmq2 (n := 11) (by decide +kernel), zmq1 (n := 9) (by decide +kernel)⟩
  | 10, _ => ⟨zmq1 (n := 205) (by decide +kernel), zmq1 (n := 7) (by decide +kernel)⟩
  | 11, _ => ⟨zmq1 (n := 22) (by decide +kernel), zmq1 (n := 1) (by decide +kernel)⟩
  | 12, _ => ⟨zmq5 (n := 123) (by decide +kernel), zmq1 (n := 13) (by decide +kernel)⟩
  | n + 13, h => absurd h (by omega)
theorem zw_law : (Cond.classLink RL 7 RX11 ∈ zGW ∧ Cond.methodLink RL 9 yX11_init ∈ zGW) ∧ (Cond.classLink RL 10 RX12 ∈ zGW ∧ Cond.methodLink RL 12 yX12_init ∈ zGW) := ⟨⟨zmq1 (n := 21) (by decide +kernel), zmq1 (n := 23) (by decide +kernel)⟩, zmq5 (n := 122) (by decide +kernel), zmq5 (n := 124) (by decide +kernel)⟩
def zckr (b : ByteArray) (own nL : Nat) (ch : List (Nat × zE)) : Bool := ch.all fun q => match q.2.1 with
  | .new _ => true
  | .invokespecial _ => true
  | .astore_n _ => true
  | .athrow => true
  | _ => zck b own nL q
theorem zckr_F {b : ByteArray} {own nL : Nat} {ch : List (Nat × zE)} (h : zfL b own nL (zpc0 ch) (b.data.toList.drop (zpc0 ch)) ch = true) : zckr b own nL ch = true := by
  have k := zfL_s ch (zpc0 ch) (b.data.toList.drop (zpc0 ch)) rfl h
  refine List.all_eq_true.mpr fun q hq => ?_
  rcases k q hq with h1 | h1
  · rcases zxm_i h1 with ⟨a, e⟩ | ⟨a, e⟩ | ⟨a, e⟩ | e <;> (simp only [e])
  · split
    · rfl
    · rfl
    · rfl
    · rfl
    · exact h1
theorem zlc_0 : zckr code 15 4 zI_281_0 = true := zckr_F (by decide +kernel)
theorem zlc_1 : zckr code 15 4 zI_281_1 = true := zckr_F (by decide +kernel)
theorem zlc_2 : zckr code 15 4 zI_281_2 = true := zckr_F (by decide +kernel)
theorem zlc_3 : zckr code 15 4 zI_281_3 = true := zckr_F (by decide +kernel)
theorem zlc_4 : zckr code 15 4 zI_281_4 = true := zckr_F (by decide +kernel)
theorem zlc_5 : zckr code 15 4 zI_281_5 = true := zckr_F (by decide +kernel)
theorem zlc_6 : zckr code 15 4 zI_281_6 = true := zckr_F (by decide +kernel)
theorem zlc_7 : zckr code 15 4 zI_281_7 = true := zckr_F (by decide +kernel)
theorem zlc_8 : zckr code 15 4 zI_281_8 = true := zckr_F (by decide +kernel)
theorem zlc_9 : zckr code 15 4 zI_281_9 = true := zckr_F (by decide +kernel)
theorem zlc_10 : zckr code 15 4 zI_281_10 = true := zckr_F (by decide +kernel)
theorem zlc_11 : zckr code 15 4 zI_281_11 = true := zckr_F (by decide +kernel)
theorem zlc_12 : zckr code 15 4 zI_281_12 = true := zckr_F (by decide +kernel)
theorem zlc_13 : zckr code 15 4 zI_281_13 = true := zckr_F (by decide +kernel)
theorem zlc_14 : zckr code 15 4 zI_281_14 = true := zckr_F (by decide +kernel)
theorem zlc_15 : zckr code 15 4 zI_281_15 = true := zckr_F (by decide +kernel)
theorem zlc_16 : zckr code 15 4 zI_281_16 = true := zckr_F (by decide +kernel)
theorem zlc_17 : zckr code 15 4 zI_281_17 = true := zckr_F (by decide +kernel)
theorem zlc_18 : zckr code 15 4 zI_281_18 = true := zckr_F (by decide +kernel)
theorem zlc_19 : zckr code 15 4 zI_281_19 = true := zckr_F (by decide +kernel)
theorem zlc_20 : zckr code 15 4 zI_281_20 = true := zckr_F (by decide +kernel)
theorem zlc_21 : zckr code 15 4 zI_281_21 = true := zckr_F (by decide +kernel)
theorem zlc_22 : zckr code 15 4 zI_281_22 = true := zckr_F (by decide +kernel)
theorem zlc_23 : zckr code 15 4 zI_281_23 = true := zckr_F (by decide +kernel)
theorem zlc_24 : zckr code 15 4 zI_281_24 = true := zckr_F (by decide +kernel)
theorem zlc_25 : zckr code 15 4 zI_281_25 = true := zckr_F (by decide +kernel)
theorem zlc_26 : zckr code 15 4 zI_281_26 = true := zckr_F (by decide +kernel)
theorem zlc_27 : zckr code 15 4 zI_281_27 = true := zckr_F (by decide +kernel)
theorem zlc_28 : zckr code 15 4 zI_281_28 = true := zckr_F (by decide +kernel)
theorem zlc_29 : zckr code 15 4 zI_281_29 = true := zckr_F (by decide +kernel)
theorem zlc_30 : zckr code 15 4 zI_281_30 = true := zckr_F (by decide +kernel)
theorem zlc_31 : zckr code 15 4 zI_281_31 = true := zckr_F (by decide +kernel)
theorem zlc_32 : zckr code 15 4 zI_281_32 = true := zckr_F (by decide +kernel)
theorem zlc_33 : zckr code 15 4 zI_281_33 = true := zckr_F (by decide +kernel)
theorem zlc_34 : zckr code 15 4 zI_281_34 = true := zckr_F (by decide +kernel)
theorem zlc_35 : zckr code 15 4 zI_281_35 = true := zckr_F (by decide +kernel)
theorem zlc_36 : zckr code 15 4 zI_281_36 = true := zckr_F (by decide +kernel)
theorem zlc_37 : zckr code 15 4 zI_281_37 = true := zckr_F (by decide +kernel)
theorem zlc_38 : zckr code 15 4 zI_281_38 = true := zckr_F (by decide +kernel)
theorem zlc_39 : zckr code 15 4 zI_281_39 = true := zckr_F (by decide +kernel)
theorem zlc_40 : zckr code 15 4 zI_281_40 = true := zckr_F (by decide +kernel)
theorem zlc_41 : zckr code 15 4 zI_281_41 = true := zckr_F (by decide +kernel)
theorem zlc_42 : zckr code 15 4 zI_281_42 = true := zckr_F (by decide +kernel)
theorem zlc_43 : zckr code 15 4 zI_281_43 = true := zckr_F (by decide +kernel)
theorem zlc_44 : zckr code 15 4 zI_281_44 = true := zckr_F (by decide +kernel)
theorem zlc_45 : zckr code 15 4 zI_281_45 = true := zckr_F (by decide +kernel)
theorem zlc_46 : zckr code 15 4 zI_281_46 = true := zckr_F (by decide +kernel)
theorem zlc_47 : zckr code 15 4 zI_281_47 = true := zckr_F (by decide +kernel)
theorem zlc_48 : zckr code 15 4 zI_281_48 = true := zckr_F (by decide +kernel)
theorem zlc_49 : zckr code 15 4 zI_281_49 = true := zckr_F (by decide +kernel)
theorem zlc_all : ∀ ch ∈ zI_281, zckr code 15 4 ch = true := List.forall_mem_cons.mpr ⟨zlc_0, List.forall_mem_cons.mpr ⟨zlc_1, List.forall_mem_cons.mpr ⟨zlc_2, List.forall_mem_cons.mpr ⟨zlc_3, List.forall_mem_cons.mpr ⟨zlc_4, List.forall_mem_cons.mpr ⟨zlc_5, List.forall_mem_cons.mpr ⟨zlc_6, List.forall_mem_cons.mpr ⟨zlc_7, List.forall_mem_cons.mpr ⟨zlc_8, List.forall_mem_cons.mpr ⟨zlc_9, List.forall_mem_cons.mpr ⟨zlc_10, List.forall_mem_cons.mpr ⟨zlc_11, List.forall_mem_cons.mpr ⟨zlc_12, List.forall_mem_cons.mpr ⟨zlc_13, List.forall_mem_cons.mpr ⟨zlc_14, List.forall_mem_cons.mpr ⟨zlc_15, List.forall_mem_cons.mpr ⟨zlc_16, List.forall_mem_cons.mpr ⟨zlc_17, List.forall_mem_cons.mpr ⟨zlc_18, List.forall_mem_cons.mpr ⟨zlc_19, List.forall_mem_cons.mpr ⟨zlc_20, List.forall_mem_cons.mpr ⟨zlc_21, List.forall_mem_cons.mpr ⟨zlc_22, List.forall_mem_cons.mpr ⟨zlc_23, List.forall_mem_cons.mpr ⟨zlc_24, List.forall_mem_cons.mpr ⟨zlc_25, List.forall_mem_cons.mpr ⟨zlc_26, List.forall_mem_cons.mpr ⟨zlc_27, List.forall_mem_cons.mpr ⟨zlc_28, List.forall_mem_cons.mpr ⟨zlc_29, List.forall_mem_cons.mpr ⟨zlc_30, List.forall_mem_cons.mpr ⟨zlc_31, List.forall_mem_cons.mpr ⟨zlc_32, List.forall_mem_cons.mpr ⟨zlc_33, List.forall_mem_cons.mpr ⟨zlc_34, List.forall_mem_cons.mpr ⟨zlc_35, List.forall_mem_cons.mpr ⟨zlc_36, List.forall_mem_cons.mpr ⟨zlc_37, List.forall_mem_cons.mpr ⟨zlc_38, List.forall_mem_cons.mpr ⟨zlc_39, List.forall_mem_cons.mpr ⟨zlc_40, List.forall_mem_cons.mpr ⟨zlc_41, List.forall_mem_cons.mpr ⟨zlc_42, List.forall_mem_cons.mpr ⟨zlc_43, List.forall_mem_cons.mpr ⟨zlc_44, List.forall_mem_cons.mpr ⟨zlc_45, List.forall_mem_cons.mpr ⟨zlc_46, List.forall_mem_cons.mpr ⟨zlc_47, List.forall_mem_cons.mpr ⟨zlc_48, List.forall_mem_cons.mpr ⟨zlc_49, fun _ h => absurd h List.not_mem_nil⟩⟩⟩⟩⟩⟩⟩⟩⟩⟩⟩⟩⟩⟩⟩⟩⟩⟩⟩⟩⟩⟩⟩⟩⟩⟩⟩⟩⟩⟩⟩⟩⟩⟩⟩⟩⟩⟩⟩⟩⟩⟩⟩⟩⟩⟩⟩⟩⟩⟩
theorem zckM_law : zckM code zT_281 = true := List.all_eq_true.mpr zlc_all
