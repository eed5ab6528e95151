set_option maxRecDepth 100000
def zJok (q : MethodName × ByteArray × Nat × Option FieldType) (T : zT) : Prop := Cond.code q.1 q.2.1 q.2.2.1 q.2.2.2 ∈ zGW ∧ Cond.initialized q.1.cls ∈ zGW ∧ plainName q.1.cls = true ∧ q.1.cls = zcn T.1 ∧ q.2.2.1 = T.2.2.2 ∧ T.2.2.2 ≤ 41 ∧ zckM q.2.1 T = true ∧ zrt T.2.2.1 = some q.2.2.2 ∧ (q.1.cls ≠ "java/lang/invoke/MethodHandle" ∧ q.1.cls ≠ "java/lang/invoke/VarHandle")
theorem zJok_0 : zJok (yX0_take, cX0_take, 4, none) zT_0 := ⟨zmr5 (n := 62) rfl (by decide +kernel), zmq1 (n := 12) (by decide +kernel), by decide +kernel, by decide +kernel, rfl, by decide +kernel, zckF_ok (by decide +kernel), rfl, by decide +kernel, by decide +kernel⟩
theorem zJok_1 : zJok (yX0_begin, cX0_begin, 2, none) zT_1 := ⟨zmr5 (n := 70) rfl (by decide +kernel), zmq1 (n := 12) (by decide +kernel), by decide +kernel, by decide +kernel, rfl, by decide +kernel, zckF_ok (by decide +kernel), rfl, by decide +kernel, by decide +kernel⟩
theorem zJok_2 : zJok (yX0_sways, cX0_sways, 2, (some .int)) zT_2 := ⟨zmr5 (n := 66) rfl (by decide +kernel), zmq1 (n := 12) (by decide +kernel), by decide +kernel, by decide +kernel, rfl, by decide +kernel, zckF_ok (by decide +kernel), rfl, by decide +kernel, by decide +kernel⟩
theorem zJok_3 : zJok (yX0_bends, cX0_bends, 2, (some .int)) zT_3 := ⟨zmr5 (n := 78) rfl (by decide +kernel), zmq1 (n := 12) (by decide +kernel), by decide +kernel, by decide +kernel, rfl, by decide +kernel, zckF_ok (by decide +kernel), rfl, by decide +kernel, by decide +kernel⟩
theorem zJok_4 : zJok (yX0_shares, cX0_shares, 2, (some .int)) zT_4 := ⟨zmr5 (n := 87) rfl (by decide +kernel), zmq1 (n := 12) (by decide +kernel), by decide +kernel, by decide +kernel, rfl, by decide +kernel, zckF_ok (by decide +kernel), rfl, by decide +kernel, by decide +kernel⟩
theorem zJok_5 : zJok (yX0_tells, cX0_tells, 2, (some .int)) zT_5 := ⟨zmr5 (n := 99) rfl (by decide +kernel), zmq1 (n := 12) (by decide +kernel), by decide +kernel, by decide +kernel, rfl, by decide +kernel, zckF_ok (by decide +kernel), rfl, by decide +kernel, by decide +kernel⟩
theorem zJok_6 : zJok (yX0_plainSways, cX0_plainSways, 2, (some .int)) zT_6 := ⟨zmr5 (n := 74) rfl (by decide +kernel), zmq1 (n := 12) (by decide +kernel), by decide +kernel, by decide +kernel, rfl, by decide +kernel, zckF_ok (by decide +kernel), rfl, by decide +kernel, by decide +kernel⟩
theorem zJok_7 : zJok (yX0_plainBends, cX0_plainBends, 2, (some .int)) zT_7 := ⟨zmr5 (n := 82) rfl (by decide +kernel), zmq1 (n := 12) (by decide +kernel), by decide +kernel, by decide +kernel, rfl, by decide +kernel, zckF_ok (by decide +kernel), rfl, by decide +kernel, by decide +kernel⟩
theorem zJok_8 : zJok (yX0_proppedShares, cX0_proppedShares, 2, (some .int)) zT_8 := ⟨zmr5 (n := 91) rfl (by decide +kernel), zmq1 (n := 12) (by decide +kernel), by decide +kernel, by decide +kernel, rfl, by decide +kernel, zckF_ok (by decide +kernel), rfl, by decide +kernel, by decide +kernel⟩
theorem zJok_9 : zJok (yX0_plainShares, cX0_plainShares, 2, (some .int)) zT_9 := ⟨zmr5 (n := 95) rfl (by decide +kernel), zmq1 (n := 12) (by decide +kernel), by decide +kernel, by decide +kernel, rfl, by decide +kernel, zckF_ok (by decide +kernel), rfl, by decide +kernel, by decide +kernel⟩
theorem zJok_10 : zJok (yX0_plainTells, cX0_plainTells, 2, (some .int)) zT_10 := ⟨zmr5 (n := 103) rfl (by decide +kernel), zmq1 (n := 12) (by decide +kernel), by decide +kernel, by decide +kernel, rfl, by decide +kernel, zckF_ok (by decide +kernel), rfl, by decide +kernel, by decide +kernel⟩
theorem zJok_11 : zJok (yX1_copyFrom, cX1_copyFrom, 2, none) zT_11 := ⟨zmr4 (n := 11) rfl (by decide +kernel), zmq1 (n := 3) (by decide +kernel), by decide +kernel, by decide +kernel, rfl, by decide +kernel, zckF_ok (by decide +kernel), rfl, by decide +kernel, by decide +kernel⟩
theorem zJok_12 : zJok (yX1_grow, cX1_grow, 6, (some .int)) zT_12 := ⟨zmr2 (n := 167) rfl (by decide +kernel), zmq1 (n := 3) (by decide +kernel), by decide +kernel, by decide +kernel, rfl, by decide +kernel, zckF_ok (by decide +kernel), rfl, by decide +kernel, by decide +kernel⟩
theorem zJok_13 : zJok (yX1_isThere, cX1_isThere, 2, (some .boolean)) zT_13 := ⟨zmr2 (n := 155) rfl (by decide +kernel), zmq1 (n := 3) (by decide +kernel), by decide +kernel, by decide +kernel, rfl, by decide +kernel, zckF_ok (by decide +kernel), rfl, by decide +kernel, by decide +kernel⟩
theorem zJok_14 : zJok (yX1_isWhole, cX1_isWhole, 2, (some .boolean)) zT_14 := ⟨zmr2 (n := 159) rfl (by decide +kernel), zmq1 (n := 3) (by decide +kernel), by decide +kernel, by decide +kernel, rfl, by decide +kernel, zckF_ok (by decide +kernel), rfl, by decide +kernel, by decide +kernel⟩
theorem zJok_15 : zJok (yX1_isAbove, cX1_isAbove, 3, (some .boolean)) zT_15 := ⟨zmr2 (n := 209) rfl (by decide +kernel), zmq1 (n := 3) (by decide +kernel), by decide +kernel, by decide +kernel, rfl, by decide +kernel, zckF_ok (by decide +kernel), rfl, by decide +kernel, by decide +kernel⟩
theorem zJok_16 : zJok (yX1_holdsNow, cX1_holdsNow, 3, (some .int)) zT_16 := ⟨zmr2 (n := 175) rfl (by decide +kernel), zmq1 (n := 3) (by decide +kernel), by decide +kernel, by decide +kernel, rfl, by decide +kernel, zckF_ok (by decide +kernel), rfl, by decide +kernel, by decide +kernel⟩
theorem zJok_17 : zJok (yX2_lay, cX2_lay, 5, none) zT_17 := ⟨zmr4 (n := 238) rfl (by decide +kernel), zmq1 (n := 11) (by decide +kernel), by decide +kernel, by decide +kernel, rfl, by decide +kernel, zckF_ok (by decide +kernel), rfl, by decide +kernel, by decide +kernel⟩
theorem zJok_18 : zJok (yX2_refusalOf, cX2_refusalOf, 3, (some .int)) zT_18 := ⟨zmr5 (n := 17) rfl (by decide +kernel), zmq1 (n := 11) (by decide +kernel), by decide +kernel, by decide +kernel, rfl, by decide +kernel, zckF_ok (by decide +kernel), rfl, by decide +kernel, by decide +kernel⟩
theorem zJok_19 : zJok (yX2_hasItem, cX2_hasItem, 3, (some .boolean)) zT_19 := ⟨zmr5 (n := 6) rfl (by decide +kernel), zmq1 (n := 11) (by decide +kernel), by decide +kernel, by decide +kernel, rfl, by decide +kernel, zckF_ok (by decide +kernel), rfl, by decide +kernel, by decide +kernel⟩
theorem zJok_20 : zJok (yX2_shelveBough, cX2_shelveBough, 3, none) zT_20 := ⟨zmr5 (n := 29) rfl (by decide +kernel), zmq1 (n := 11) (by decide +kernel), by decide +kernel, by decide +kernel, rfl, by decide +kernel, zckF_ok (by decide +kernel), rfl, by decide +kernel, by decide +kernel⟩
theorem zJok_21 : zJok (yX2_shelveRow, cX2_shelveRow, 3, none) zT_21 := ⟨zmr5 (n := 33) rfl (by decide +kernel), zmq1 (n := 11) (by decide +kernel), by decide +kernel, by decide +kernel, rfl, by decide +kernel, zckF_ok (by decide +kernel), rfl, by decide +kernel, by decide +kernel⟩
theorem zJok_22 : zJok (yX2_clear, cX2_clear, 2, none) zT_22 := ⟨zmr5 (n := 37) rfl (by decide +kernel), zmq1 (n := 11) (by decide +kernel), by decide +kernel, by decide +kernel, rfl, by decide +kernel, zckF_ok (by decide +kernel), rfl, by decide +kernel, by decide +kernel⟩
theorem zJok_23 : zJok (yX2_isBough, cX2_isBough, 2, (some .boolean)) zT_23 := ⟨zmr5 (n := 53) rfl (by decide +kernel), zmq1 (n := 11) (by decide +kernel), by decide +kernel, by decide +kernel, rfl, by decide +kernel, zckF_ok (by decide +kernel), rfl, by decide +kernel, by decide +kernel⟩
theorem zJok_24 : zJok (yX2_isRow, cX2_isRow, 2, (some .boolean)) zT_24 := ⟨zmr5 (n := 45) rfl (by decide +kernel), zmq1 (n := 11) (by decide +kernel), by decide +kernel, by decide +kernel, rfl, by decide +kernel, zckF_ok (by decide +kernel), rfl, by decide +kernel, by decide +kernel⟩
theorem zJok_25 : zJok (yX3_copyFrom, cX3_copyFrom, 2, none) zT_25 := ⟨zmr4 (n := 7) rfl (by decide +kernel), zmq1 (n := 2) (by decide +kernel), by decide +kernel, by decide +kernel, rfl, by decide +kernel, zckF_ok (by decide +kernel), rfl, by decide +kernel, by decide +kernel⟩
theorem zJok_26 : zJok (yX3_bears, cX3_bears, 4, (some .int)) zT_26 := ⟨zmr2 (n := 205) rfl (by decide +kernel), zmq1 (n := 2) (by decide +kernel), by decide +kernel, by decide +kernel, rfl, by decide +kernel, zckF_ok (by decide +kernel), rfl, by decide +kernel, by decide +kernel⟩
theorem zJok_27 : zJok (yX3_measure, cX3_measure, 2, none) zT_27 := ⟨zmr3 (n := 209) rfl (by decide +kernel), zmq1 (n := 2) (by decide +kernel), by decide +kernel, by decide +kernel, rfl, by decide +kernel, zckF_ok (by decide +kernel), rfl, by decide +kernel, by decide +kernel⟩
theorem zJok_28 : zJok (yX3_load, cX3_load, 4, none) zT_28 := ⟨zmr3 (n := 239) rfl (by decide +kernel), zmq1 (n := 2) (by decide +kernel), by decide +kernel, by decide +kernel, rfl, by decide +kernel, zckF_ok (by decide +kernel), rfl, by decide +kernel, by decide +kernel⟩
theorem zJok_29 : zJok (yX3_cracking, cX3_cracking, 3, (some .int)) zT_29 := ⟨zmr3 (n := 213) rfl (by decide +kernel), zmq1 (n := 2) (by decide +kernel), by decide +kernel, by decide +kernel, rfl, by decide +kernel, zckF_ok (by decide +kernel), rfl, by decide +kernel, by decide +kernel⟩
theorem zJok_30 : zJok (yX3_stateOf, cX3_stateOf, 2, (some .int)) zT_30 := ⟨zmr2 (n := 213) rfl (by decide +kernel), zmq1 (n := 2) (by decide +kernel), by decide +kernel, by decide +kernel, rfl, by decide +kernel, zckF_ok (by decide +kernel), rfl, by decide +kernel, by decide +kernel⟩
theorem zJok_31 : zJok (yX3_leastSpare, cX3_leastSpare, 3, (some .int)) zT_31 := ⟨zmr3 (n := 221) rfl (by decide +kernel), zmq1 (n := 2) (by decide +kernel), by decide +kernel, by decide +kernel, rfl, by decide +kernel, zckF_ok (by decide +kernel), rfl, by decide +kernel, by decide +kernel⟩
theorem zJok_32 : zJok (yX3_roomOn, cX3_roomOn, 4, (some .int)) zT_32 := ⟨zmr4 (n := 43) rfl (by decide +kernel), zmq1 (n := 2) (by decide +kernel), by decide +kernel, by decide +kernel, rfl, by decide +kernel, zckF_ok (by decide +kernel), rfl, by decide +kernel, by decide +kernel⟩
theorem zJok_33 : zJok (yX3_breakDown, cX3_breakDown, 4, (some .int)) zT_33 := ⟨zmr3 (n := 229) rfl (by decide +kernel), zmq1 (n := 2) (by decide +kernel), by decide +kernel, by decide +kernel, rfl, by decide +kernel, zckF_ok (by decide +kernel), rfl, by decide +kernel, by decide +kernel⟩
theorem zJok_34 : zJok (yX3_breakOff, cX3_breakOff, 5, (some .int)) zT_34 := ⟨zmr3 (n := 235) rfl (by decide +kernel), zmq1 (n := 2) (by decide +kernel), by decide +kernel, by decide +kernel, rfl, by decide +kernel, zckF_ok (by decide +kernel), rfl, by decide +kernel, by decide +kernel⟩
theorem zJok_35 : zJok (yX4_copyFrom, cX4_copyFrom, 2, none) zT_35 := ⟨zmr4 (n := 17) rfl (by decide +kernel), zmq1 (n := 5) (by decide +kernel), by decide +kernel, by decide +kernel, rfl, by decide +kernel, zckF_ok (by decide +kernel), rfl, by decide +kernel, by decide +kernel⟩
theorem zJok_36 : zJok (yX4_join, cX4_join, 4, (some .int)) zT_36 := ⟨zmr3 (n := 185) rfl (by decide +kernel), zmq1 (n := 5) (by decide +kernel), by decide +kernel, by decide +kernel, rfl, by decide +kernel, zckF_ok (by decide +kernel), rfl, by decide +kernel, by decide +kernel⟩
theorem zJok_37 : zJok (yX4_isThere, cX4_isThere, 2, (some .boolean)) zT_37 := ⟨zmr3 (n := 193) rfl (by decide +kernel), zmq1 (n := 5) (by decide +kernel), by decide +kernel, by decide +kernel, rfl, by decide +kernel, zckF_ok (by decide +kernel), rfl, by decide +kernel, by decide +kernel⟩
theorem zJok_38 : zJok (yX4_seatedWeight, cX4_seatedWeight, 4, (some .int)) zT_38 := ⟨zmr4 (n := 31) rfl (by decide +kernel), zmq1 (n := 5) (by decide +kernel), by decide +kernel, by decide +kernel, rfl, by decide +kernel, zckF_ok (by decide +kernel), rfl, by decide +kernel, by decide +kernel⟩
theorem zJok_39 : zJok (yX4_firstUnseated, cX4_firstUnseated, 3, (some .int)) zT_39 := ⟨zmr4 (n := 127) rfl (by decide +kernel), zmq1 (n := 5) (by decide +kernel), by decide +kernel, by decide +kernel, rfl, by decide +kernel, zckF_ok (by decide +kernel), rfl, by decide +kernel, by decide +kernel⟩
theorem zJok_40 : zJok (yX5_copyFrom, cX5_copyFrom, 2, none) zT_40 := ⟨zmr4 (n := 22) rfl (by decide +kernel), zmq1 (n := 6) (by decide +kernel), by decide +kernel, by decide +kernel, rfl, by decide +kernel, zckF_ok (by decide +kernel), rfl, by decide +kernel, by decide +kernel⟩
theorem zJok_41 : zJok (yX5_note, cX5_note, 4, (some .int)) zT_41 := ⟨zmr4 (n := 148) rfl (by decide +kernel), zmq1 (n := 6) (by decide +kernel), by decide +kernel, by decide +kernel, rfl, by decide +kernel, zckF_ok (by decide +kernel), rfl, by decide +kernel, by decide +kernel⟩
theorem zJok_42 : zJok (yX5_fit, cX5_fit, 4, none) zT_42 := ⟨zmr4 (n := 160) rfl (by decide +kernel), zmq1 (n := 6) (by decide +kernel), by decide +kernel, by decide +kernel, rfl, by decide +kernel, zckF_ok (by decide +kernel), rfl, by decide +kernel, by decide +kernel⟩
theorem zJok_43 : zJok (yX5_narrow, cX5_narrow, 4, none) zT_43 := ⟨zmr4 (n := 164) rfl (by decide +kernel), zmq1 (n := 6) (by decide +kernel), by decide +kernel, by decide +kernel, rfl, by decide +kernel, zckF_ok (by decide +kernel), rfl, by decide +kernel, by decide +kernel⟩
theorem zJok_44 : zJok (yX5_fitting, cX5_fitting, 1, (some .int)) zT_44 := ⟨zmr4 (n := 173) rfl (by decide +kernel), zmq1 (n := 6) (by decide +kernel), by decide +kernel, by decide +kernel, rfl, by decide +kernel, zckF_ok (by decide +kernel), rfl, by decide +kernel, by decide +kernel⟩
theorem zJok_45 : zJok (yX6_has, cX6_has, 3, (some .boolean)) zT_45 := ⟨zmr4 (n := 215) rfl (by decide +kernel), zmq1 (n := 10) (by decide +kernel), by decide +kernel, by decide +kernel, rfl, by decide +kernel, zckF_ok (by decide +kernel), rfl, by decide +kernel, by decide +kernel⟩
theorem zJok_46 : zJok (yX6_tell, cX6_tell, 5, none) zT_46 := ⟨zmr4 (n := 204) rfl (by decide +kernel), zmq1 (n := 10) (by decide +kernel), by decide +kernel, by decide +kernel, rfl, by decide +kernel, zckF_ok (by decide +kernel), rfl, by decide +kernel, by decide +kernel⟩
theorem zJok_47 : zJok (yX6_firstWrong, cX6_firstWrong, 5, (some .int)) zT_47 := ⟨zmr4 (n := 227) rfl (by decide +kernel), zmq1 (n := 10) (by decide +kernel), by decide +kernel, by decide +kernel, rfl, by decide +kernel, zckF_ok (by decide +kernel), rfl, by decide +kernel, by decide +kernel⟩
theorem zJok_48 : zJok (yX7_faultOf, cX7_faultOf, 4, (some .int)) zT_48 := ⟨zmr3 (n := 7) rfl (by decide +kernel), zmq1 (n := 8) (by decide +kernel), by decide +kernel, by decide +kernel, rfl, by decide +kernel, zckF_ok (by decide +kernel), rfl, by decide +kernel, by decide +kernel⟩
theorem zJok_49 : zJok (yX7_takes, cX7_takes, 2, (some .boolean)) zT_49 := ⟨zmr3 (n := 107) rfl (by decide +kernel), zmq1 (n := 8) (by decide +kernel), by decide +kernel, by decide +kernel, rfl, by decide +kernel, zckF_ok (by decide +kernel), rfl, by decide +kernel, by decide +kernel⟩
theorem zJok_50 : zJok (yX7_takesKind, cX7_takesKind, 2, (some .boolean)) zT_50 := ⟨zmr3 (n := 111) rfl (by decide +kernel), zmq1 (n := 8) (by decide +kernel), by decide +kernel, by decide +kernel, rfl, by decide +kernel, zckF_ok (by decide +kernel), rfl, by decide +kernel, by decide +kernel⟩
theorem zJok_51 : zJok (yX7_takesIf, cX7_takesIf, 2, (some .boolean)) zT_51 := ⟨zmr3 (n := 116) rfl (by decide +kernel), zmq1 (n := 8) (by decide +kernel), by decide +kernel, by decide +kernel, rfl, by decide +kernel, zckF_ok (by decide +kernel), rfl, by decide +kernel, by decide +kernel⟩
theorem zJok_52 : zJok (yX7_takesDeed, cX7_takesDeed, 2, (some .boolean)) zT_52 := ⟨zmr3 (n := 120) rfl (by decide +kernel), zmq1 (n := 8) (by decide +kernel), by decide +kernel, by decide +kernel, rfl, by decide +kernel, zckF_ok (by decide +kernel), rfl, by decide +kernel, by decide +kernel⟩
theorem zJok_53 : zJok (yX7_takesAmount, cX7_takesAmount, 2, (some .boolean)) zT_53 := ⟨zmr3 (n := 132) rfl (by decide +kernel), zmq1 (n := 8) (by decide +kernel), by decide +kernel, by decide +kernel, rfl, by decide +kernel, zckF_ok (by decide +kernel), rfl, by decide +kernel, by decide +kernel⟩
theorem zJok_54 : zJok (yX7_takesEnd, cX7_takesEnd, 2, (some .boolean)) zT_54 := ⟨zmr3 (n := 136) rfl (by decide +kernel), zmq1 (n := 8) (by decide +kernel), by decide +kernel, by decide +kernel, rfl, by decide +kernel, zckF_ok (by decide +kernel), rfl, by decide +kernel, by decide +kernel⟩
theorem zJok_55 : zJok (yX7_takesOne, cX7_takesOne, 2, (some .boolean)) zT_55 := ⟨zmr3 (n := 140) rfl (by decide +kernel), zmq1 (n := 8) (by decide +kernel), by decide +kernel, by decide +kernel, rfl, by decide +kernel, zckF_ok (by decide +kernel), rfl, by decide +kernel, by decide +kernel⟩
theorem zJok_56 : zJok (yX7_takesSign, cX7_takesSign, 2, (some .boolean)) zT_56 := ⟨zmr3 (n := 151) rfl (by decide +kernel), zmq1 (n := 8) (by decide +kernel), by decide +kernel, by decide +kernel, rfl, by decide +kernel, zckF_ok (by decide +kernel), rfl, by decide +kernel, by decide +kernel⟩
theorem zJok_57 : zJok (yX7_takesValue, cX7_takesValue, 2, (some .boolean)) zT_57 := ⟨zmr3 (n := 155) rfl (by decide +kernel), zmq1 (n := 8) (by decide +kernel), by decide +kernel, by decide +kernel, rfl, by decide +kernel, zckF_ok (by decide +kernel), rfl, by decide +kernel, by decide +kernel⟩
theorem zJok_58 : zJok (yX7_takesJoint, cX7_takesJoint, 2, (some .boolean)) zT_58 := ⟨zmr3 (n := 159) rfl (by decide +kernel), zmq1 (n := 8) (by decide +kernel), by decide +kernel, by decide +kernel, rfl, by decide +kernel, zckF_ok (by decide +kernel), rfl, by decide +kernel, by decide +kernel⟩
theorem zJok_59 : zJok (yX7_isValue, cX7_isValue, 1, (some .boolean)) zT_59 := ⟨zmr3 (n := 147) rfl (by decide +kernel), zmq1 (n := 8) (by decide +kernel), by decide +kernel, by decide +kernel, rfl, by decide +kernel, zckF_ok (by decide +kernel), rfl, by decide +kernel, by decide +kernel⟩
theorem zJok_60 : zJok (yX7_await, cX7_await, 2, none) zT_60 := ⟨zmr3 (n := 144) rfl (by decide +kernel), zmq1 (n := 8) (by decide +kernel), by decide +kernel, by decide +kernel, rfl, by decide +kernel, zckF_ok (by decide +kernel), rfl, by decide +kernel, by decide +kernel⟩
theorem zJok_61 : zJok (yX7_settle, cX7_settle, 3, none) zT_61 := ⟨zmr3 (n := 124) rfl (by decide +kernel), zmq1 (n := 8) (by decide +kernel), by decide +kernel, by decide +kernel, rfl, by decide +kernel, zckF_ok (by decide +kernel), rfl, by decide +kernel, by decide +kernel⟩
theorem zJok_62 : zJok (yX7_step, cX7_step, 2, none) zT_62 := ⟨zmr3 (n := 128) rfl (by decide +kernel), zmq1 (n := 8) (by decide +kernel), by decide +kernel, by decide +kernel, rfl, by decide +kernel, zckF_ok (by decide +kernel), rfl, by decide +kernel, by decide +kernel⟩
theorem zJok_63 : zJok (yX8_copyFrom, cX8_copyFrom, 2, none) zT_63 := ⟨zmr3 (n := 164) rfl (by decide +kernel), zmq1 (n := 4) (by decide +kernel), by decide +kernel, by decide +kernel, rfl, by decide +kernel, zckF_ok (by decide +kernel), rfl, by decide +kernel, by decide +kernel⟩
theorem zJok_64 : zJok (yX8_setFacts, cX8_setFacts, 6, none) zT_64 := ⟨zmr2 (n := 179) rfl (by decide +kernel), zmq1 (n := 4) (by decide +kernel), by decide +kernel, by decide +kernel, rfl, by decide +kernel, zckF_ok (by decide +kernel), rfl, by decide +kernel, by decide +kernel⟩
theorem zJok_65 : zJok (yX8_changed, cX8_changed, 5, (some .int)) zT_65 := ⟨zmr2 (n := 183) rfl (by decide +kernel), zmq1 (n := 4) (by decide +kernel), by decide +kernel, by decide +kernel, rfl, by decide +kernel, zckF_ok (by decide +kernel), rfl, by decide +kernel, by decide +kernel⟩
theorem zJok_66 : zJok (yX8_changedBy, cX8_changedBy, 3, (some .int)) zT_66 := ⟨zmr2 (n := 197) rfl (by decide +kernel), zmq1 (n := 4) (by decide +kernel), by decide +kernel, by decide +kernel, rfl, by decide +kernel, zckF_ok (by decide +kernel), rfl, by decide +kernel, by decide +kernel⟩
theorem zJok_67 : zJok (yX8_isSo, cX8_isSo, 6, (some .boolean)) zT_67 := ⟨zmr2 (n := 190) rfl (by decide +kernel), zmq1 (n := 4) (by decide +kernel), by decide +kernel, by decide +kernel, rfl, by decide +kernel, zckF_ok (by decide +kernel), rfl, by decide +kernel, by decide +kernel⟩
theorem zJok_68 : zJok (yX8_joined, cX8_joined, 3, (some .boolean)) zT_68 := ⟨zmr2 (n := 193) rfl (by decide +kernel), zmq1 (n := 4) (by decide +kernel), by decide +kernel, by decide +kernel, rfl, by decide +kernel, zckF_ok (by decide +kernel), rfl, by decide +kernel, by decide +kernel⟩
theorem zJok_69 : zJok (yX9_finds, cX9_finds, 4, (some .boolean)) zT_69 := ⟨zmr4 (n := 97) rfl (by decide +kernel), zmq1 (n := 9) (by decide +kernel), by decide +kernel, by decide +kernel, rfl, by decide +kernel, zckF_ok (by decide +kernel), rfl, by decide +kernel, by decide +kernel⟩
theorem zJok_70 : zJok (yX9_seatsFrom, cX9_seatsFrom, 4, (some .boolean)) zT_70 := ⟨zmr4 (n := 105) rfl (by decide +kernel), zmq1 (n := 9) (by decide +kernel), by decide +kernel, by decide +kernel, rfl, by decide +kernel, zckF_ok (by decide +kernel), rfl, by decide +kernel, by decide +kernel⟩
theorem zJok_71 : zJok (yX9_gameValue, cX9_gameValue, 4, (some .int)) zT_71 := ⟨zmr4 (n := 119) rfl (by decide +kernel), zmq1 (n := 9) (by decide +kernel), by decide +kernel, by decide +kernel, rfl, by decide +kernel, zckF_ok (by decide +kernel), rfl, by decide +kernel, by decide +kernel⟩
theorem zJok_72 : zJok (yX9_firstMove, cX9_firstMove, 7, (some .int)) zT_72 := ⟨zmr4 (n := 139) rfl (by decide +kernel), zmq1 (n := 9) (by decide +kernel), by decide +kernel, by decide +kernel, rfl, by decide +kernel, zckF_ok (by decide +kernel), rfl, by decide +kernel, by decide +kernel⟩
theorem zJok_73 : zJok (yX9_valueOf, cX9_valueOf, 8, (some .int)) zT_73 := ⟨zmr4 (n := 123) rfl (by decide +kernel), zmq1 (n := 9) (by decide +kernel), by decide +kernel, by decide +kernel, rfl, by decide +kernel, zckF_ok (by decide +kernel), rfl, by decide +kernel, by decide +kernel⟩
theorem zJok_74 : zJok (yX9_valueBehind, cX9_valueBehind, 7, (some .int)) zT_74 := ⟨zmr4 (n := 131) rfl (by decide +kernel), zmq1 (n := 9) (by decide +kernel), by decide +kernel, by decide +kernel, rfl, by decide +kernel, zckF_ok (by decide +kernel), rfl, by decide +kernel, by decide +kernel⟩
theorem zJok_75 : zJok (yX10_append, cX10_append, 5, none) zT_75 := ⟨zmr2 (n := 239) rfl (by decide +kernel), zmq1 (n := 7) (by decide +kernel), by decide +kernel, by decide +kernel, rfl, by decide +kernel, zckF_ok (by decide +kernel), rfl, by decide +kernel, by decide +kernel⟩
theorem zJok_76 : zJok (yX10_isBlank, cX10_isBlank, 2, (some .boolean)) zT_76 := ⟨zmr3 (n := 11) rfl (by decide +kernel), zmq1 (n := 7) (by decide +kernel), by decide +kernel, by decide +kernel, rfl, by decide +kernel, zckF_ok (by decide +kernel), rfl, by decide +kernel, by decide +kernel⟩
theorem zJok_77 : zJok (yX10_endOfWord, cX10_endOfWord, 4, (some .int)) zT_77 := ⟨zmr3 (n := 15) rfl (by decide +kernel), zmq1 (n := 7) (by decide +kernel), by decide +kernel, by decide +kernel, rfl, by decide +kernel, zckF_ok (by decide +kernel), rfl, by decide +kernel, by decide +kernel⟩
theorem zJok_78 : zJok (yX10_word, cX10_word, 3, (some .int)) zT_78 := ⟨zmr3 (n := 25) rfl (by decide +kernel), zmq1 (n := 7) (by decide +kernel), by decide +kernel, by decide +kernel, rfl, by decide +kernel, zckF_ok (by decide +kernel), rfl, by decide +kernel, by decide +kernel⟩
theorem zJok_79 : zJok (yX10_numberWord, cX10_numberWord, 5, (some .int)) zT_79 := ⟨zmr3 (n := 103) rfl (by decide +kernel), zmq1 (n := 7) (by decide +kernel), by decide +kernel, by decide +kernel, rfl, by decide +kernel, zckF_ok (by decide +kernel), rfl, by decide +kernel, by decide +kernel⟩
theorem zJok_80 : zJok (yX10_nameWord, cX10_nameWord, 3, (some .int)) zT_80 := ⟨zmr3 (n := 29) rfl (by decide +kernel), zmq1 (n := 7) (by decide +kernel), by decide +kernel, by decide +kernel, rfl, by decide +kernel, zckF_ok (by decide +kernel), rfl, by decide +kernel, by decide +kernel⟩
theorem zJok_81 : zJok (yX10_isName, cX10_isName, 5, (some .boolean)) zT_81 := ⟨zmr3 (n := 34) rfl (by decide +kernel), zmq1 (n := 7) (by decide +kernel), by decide +kernel, by decide +kernel, rfl, by decide +kernel, zckF_ok (by decide +kernel), rfl, by decide +kernel, by decide +kernel⟩
theorem zJok_82 : zJok (yX10_isLetter, cX10_isLetter, 1, (some .boolean)) zT_82 := ⟨zmr3 (n := 18) rfl (by decide +kernel), zmq1 (n := 7) (by decide +kernel), by decide +kernel, by decide +kernel, rfl, by decide +kernel, zckF_ok (by decide +kernel), rfl, by decide +kernel, by decide +kernel⟩
theorem zJok_83 : zJok (yX10_isDigit, cX10_isDigit, 1, (some .boolean)) zT_83 := ⟨zmr3 (n := 21) rfl (by decide +kernel), zmq1 (n := 7) (by decide +kernel), by decide +kernel, by decide +kernel, rfl, by decide +kernel, zckF_ok (by decide +kernel), rfl, by decide +kernel, by decide +kernel⟩
theorem zJok_84 : zJok (yX11_bough, cX11_bough, 6, (some .int)) zT_84 := ⟨zmr2 (n := 145) rfl (by decide +kernel), zmq1 (n := 1) (by decide +kernel), by decide +kernel, by decide +kernel, rfl, by decide +kernel, zckF_ok (by decide +kernel), rfl, by decide +kernel, by decide +kernel⟩
theorem zJok_85 : zJok (yX11_boughOf, cX11_boughOf, 3, (some .int)) zT_85 := ⟨zmr2 (n := 171) rfl (by decide +kernel), zmq1 (n := 1) (by decide +kernel), by decide +kernel, by decide +kernel, rfl, by decide +kernel, zckF_ok (by decide +kernel), rfl, by decide +kernel, by decide +kernel⟩
theorem zJok_86 : zJok (yX11_change, cX11_change, 4, (some .int)) zT_86 := ⟨zmr2 (n := 220) rfl (by decide +kernel), zmq1 (n := 1) (by decide +kernel), by decide +kernel, by decide +kernel, rfl, by decide +kernel, zckF_ok (by decide +kernel), rfl, by decide +kernel, by decide +kernel⟩
theorem zJok_87 : zJok (yX11_graft, cX11_graft, 3, (some .int)) zT_87 := ⟨zmr2 (n := 227) rfl (by decide +kernel), zmq1 (n := 1) (by decide +kernel), by decide +kernel, by decide +kernel, rfl, by decide +kernel, zckF_ok (by decide +kernel), rfl, by decide +kernel, by decide +kernel⟩
theorem zJok_88 : zJok (yX11_weather, cX11_weather, 4, (some .int)) zT_88 := ⟨zmr2 (n := 231) rfl (by decide +kernel), zmq1 (n := 1) (by decide +kernel), by decide +kernel, by decide +kernel, rfl, by decide +kernel, zckF_ok (by decide +kernel), rfl, by decide +kernel, by decide +kernel⟩
theorem zJok_89 : zJok (yX11_feed, cX11_feed, 4, (some .int)) zT_89 := ⟨zmr2 (n := 235) rfl (by decide +kernel), zmq1 (n := 1) (by decide +kernel), by decide +kernel, by decide +kernel, rfl, by decide +kernel, zckF_ok (by decide +kernel), rfl, by decide +kernel, by decide +kernel⟩
theorem zJok_90 : zJok (yX11_rules, cX11_rules, 2, (some .int)) zT_90 := ⟨zmr3 (n := 3) rfl (by decide +kernel), zmq1 (n := 1) (by decide +kernel), by decide +kernel, by decide +kernel, rfl, by decide +kernel, zckF_ok (by decide +kernel), rfl, by decide +kernel, by decide +kernel⟩
theorem zJok_91 : zJok (yX11_person, cX11_person, 3, (some .int)) zT_91 := ⟨zmr3 (n := 178) rfl (by decide +kernel), zmq1 (n := 1) (by decide +kernel), by decide +kernel, by decide +kernel, rfl, by decide +kernel, zckF_ok (by decide +kernel), rfl, by decide +kernel, by decide +kernel⟩
theorem zJok_92 : zJok (yX11_personOf, cX11_personOf, 3, (some .int)) zT_92 := ⟨zmr3 (n := 189) rfl (by decide +kernel), zmq1 (n := 1) (by decide +kernel), by decide +kernel, by decide +kernel, rfl, by decide +kernel, zckF_ok (by decide +kernel), rfl, by decide +kernel, by decide +kernel⟩
theorem zJok_93 : zJok (yX11_sit, cX11_sit, 3, (some .int)) zT_93 := ⟨zmr3 (n := 197) rfl (by decide +kernel), zmq1 (n := 1) (by decide +kernel), by decide +kernel, by decide +kernel, rfl, by decide +kernel, zckF_ok (by decide +kernel), rfl, by decide +kernel, by decide +kernel⟩
theorem zJok_94 : zJok (yX11_down, cX11_down, 2, (some .int)) zT_94 := ⟨zmr3 (n := 201) rfl (by decide +kernel), zmq1 (n := 1) (by decide +kernel), by decide +kernel, by decide +kernel, rfl, by decide +kernel, zckF_ok (by decide +kernel), rfl, by decide +kernel, by decide +kernel⟩
theorem zJok_95 : zJok (yX11_cracks, cX11_cracks, 1, (some .int)) zT_95 := ⟨zmr3 (n := 205) rfl (by decide +kernel), zmq1 (n := 1) (by decide +kernel), by decide +kernel, by decide +kernel, rfl, by decide +kernel, zckF_ok (by decide +kernel), rfl, by decide +kernel, by decide +kernel⟩
theorem zJok_96 : zJok (yX11_worst, cX11_worst, 2, (some .int)) zT_96 := ⟨zmr3 (n := 217) rfl (by decide +kernel), zmq1 (n := 1) (by decide +kernel), by decide +kernel, by decide +kernel, rfl, by decide +kernel, zckF_ok (by decide +kernel), rfl, by decide +kernel, by decide +kernel⟩
theorem zJok_97 : zJok (yX11_fall, cX11_fall, 1, (some .int)) zT_97 := ⟨zmr3 (n := 225) rfl (by decide +kernel), zmq1 (n := 1) (by decide +kernel), by decide +kernel, by decide +kernel, rfl, by decide +kernel, zckF_ok (by decide +kernel), rfl, by decide +kernel, by decide +kernel⟩
theorem zJok_98 : zJok (yX11_would, cX11_would, 1, (some .int)) zT_98 := ⟨zmr4 (n := 3) rfl (by decide +kernel), zmq1 (n := 1) (by decide +kernel), by decide +kernel, by decide +kernel, rfl, by decide +kernel, zckF_ok (by decide +kernel), rfl, by decide +kernel, by decide +kernel⟩
theorem zJok_99 : zJok (yX11_standing, cX11_standing, 2, (some .int)) zT_99 := ⟨zmr4 (n := 27) rfl (by decide +kernel), zmq1 (n := 1) (by decide +kernel), by decide +kernel, by decide +kernel, rfl, by decide +kernel, zckF_ok (by decide +kernel), rfl, by decide +kernel, by decide +kernel⟩
theorem zJok_100 : zJok (yX11_verdict, cX11_verdict, 2, (some .int)) zT_100 := ⟨zmr4 (n := 35) rfl (by decide +kernel), zmq1 (n := 1) (by decide +kernel), by decide +kernel, by decide +kernel, rfl, by decide +kernel, zckF_ok (by decide +kernel), rfl, by decide +kernel, by decide +kernel⟩
theorem zJok_101 : zJok (yX11_room, cX11_room, 2, (some .int)) zT_101 := ⟨zmr4 (n := 39) rfl (by decide +kernel), zmq1 (n := 1) (by decide +kernel), by decide +kernel, by decide +kernel, rfl, by decide +kernel, zckF_ok (by decide +kernel), rfl, by decide +kernel, by decide +kernel⟩
theorem zJok_102 : zJok (yX11_best, cX11_best, 5, (some .int)) zT_102 := ⟨zmr4 (n := 49) rfl (by decide +kernel), zmq1 (n := 1) (by decide +kernel), by decide +kernel, by decide +kernel, rfl, by decide +kernel, zckF_ok (by decide +kernel), rfl, by decide +kernel, by decide +kernel⟩
theorem zJok_103 : zJok (yX11_safe, cX11_safe, 5, (some .int)) zT_103 := ⟨zmr4 (n := 57) rfl (by decide +kernel), zmq1 (n := 1) (by decide +kernel), by decide +kernel, by decide +kernel, rfl, by decide +kernel, zckF_ok (by decide +kernel), rfl, by decide +kernel, by decide +kernel⟩
theorem zJok_104 : zJok (yX11_prop, cX11_prop, 5, (some .int)) zT_104 := ⟨zmr4 (n := 62) rfl (by decide +kernel), zmq1 (n := 1) (by decide +kernel), by decide +kernel, by decide +kernel, rfl, by decide +kernel, zckF_ok (by decide +kernel), rfl, by decide +kernel, by decide +kernel⟩
theorem zJok_105 : zJok (yX11_windFor, cX11_windFor, 3, (some .int)) zT_105 := ⟨zmr4 (n := 70) rfl (by decide +kernel), zmq1 (n := 1) (by decide +kernel), by decide +kernel, by decide +kernel, rfl, by decide +kernel, zckF_ok (by decide +kernel), rfl, by decide +kernel, by decide +kernel⟩
theorem zJok_106 : zJok (yX11_sapFor, cX11_sapFor, 2, (some .int)) zT_106 := ⟨zmr4 (n := 79) rfl (by decide +kernel), zmq1 (n := 1) (by decide +kernel), by decide +kernel, by decide +kernel, rfl, by decide +kernel, zckF_ok (by decide +kernel), rfl, by decide +kernel, by decide +kernel⟩
theorem zJok_107 : zJok (yX11_tryWithout, cX11_tryWithout, 2, none) zT_107 := ⟨zmr4 (n := 53) rfl (by decide +kernel), zmq1 (n := 1) (by decide +kernel), by decide +kernel, by decide +kernel, rfl, by decide +kernel, zckF_ok (by decide +kernel), rfl, by decide +kernel, by decide +kernel⟩
theorem zJok_108 : zJok (yX11_seatedIfPropped, cX11_seatedIfPropped, 2, (some .int)) zT_108 := ⟨zmr4 (n := 66) rfl (by decide +kernel), zmq1 (n := 1) (by decide +kernel), by decide +kernel, by decide +kernel, rfl, by decide +kernel, zckF_ok (by decide +kernel), rfl, by decide +kernel, by decide +kernel⟩
theorem zJok_109 : zJok (yX11_crackingWinds, cX11_crackingWinds, 3, (some .int)) zT_109 := ⟨zmr4 (n := 74) rfl (by decide +kernel), zmq1 (n := 1) (by decide +kernel), by decide +kernel, by decide +kernel, rfl, by decide +kernel, zckF_ok (by decide +kernel), rfl, by decide +kernel, by decide +kernel⟩
theorem zJok_110 : zJok (yX11_seat, cX11_seat, 3, (some .int)) zT_110 := ⟨zmr4 (n := 83) rfl (by decide +kernel), zmq1 (n := 1) (by decide +kernel), by decide +kernel, by decide +kernel, rfl, by decide +kernel, zckF_ok (by decide +kernel), rfl, by decide +kernel, by decide +kernel⟩
theorem zJok_111 : zJok (yX11_seatAll, cX11_seatAll, 3, (some .int)) zT_111 := ⟨zmr4 (n := 111) rfl (by decide +kernel), zmq1 (n := 1) (by decide +kernel), by decide +kernel, by decide +kernel, rfl, by decide +kernel, zckF_ok (by decide +kernel), rfl, by decide +kernel, by decide +kernel⟩
theorem zJok_112 : zJok (yX11_game, cX11_game, 3, (some .int)) zT_112 := ⟨zmr4 (n := 115) rfl (by decide +kernel), zmq1 (n := 1) (by decide +kernel), by decide +kernel, by decide +kernel, rfl, by decide +kernel, zckF_ok (by decide +kernel), rfl, by decide +kernel, by decide +kernel⟩
theorem zJok_113 : zJok (yX11_move, cX11_move, 3, (some .int)) zT_113 := ⟨zmr4 (n := 135) rfl (by decide +kernel), zmq1 (n := 1) (by decide +kernel), by decide +kernel, by decide +kernel, rfl, by decide +kernel, zckF_ok (by decide +kernel), rfl, by decide +kernel, by decide +kernel⟩
theorem zJok_114 : zJok (yX11_isSeatable, cX11_isSeatable, 2, (some .boolean)) zT_114 := ⟨zmr4 (n := 87) rfl (by decide +kernel), zmq1 (n := 1) (by decide +kernel), by decide +kernel, by decide +kernel, rfl, by decide +kernel, zckF_ok (by decide +kernel), rfl, by decide +kernel, by decide +kernel⟩
theorem zJok_115 : zJok (yX11_report, cX11_report, 3, (some .int)) zT_115 := ⟨zmr4 (n := 144) rfl (by decide +kernel), zmq1 (n := 1) (by decide +kernel), by decide +kernel, by decide +kernel, rfl, by decide +kernel, zckF_ok (by decide +kernel), rfl, by decide +kernel, by decide +kernel⟩
theorem zJok_116 : zJok (yX11_forget, cX11_forget, 2, (some .int)) zT_116 := ⟨zmr4 (n := 152) rfl (by decide +kernel), zmq1 (n := 1) (by decide +kernel), by decide +kernel, by decide +kernel, rfl, by decide +kernel, zckF_ok (by decide +kernel), rfl, by decide +kernel, by decide +kernel⟩
theorem zJok_117 : zJok (yX11_span, cX11_span, 2, (some .int)) zT_117 := ⟨zmr4 (n := 156) rfl (by decide +kernel), zmq1 (n := 1) (by decide +kernel), by decide +kernel, by decide +kernel, rfl, by decide +kernel, zckF_ok (by decide +kernel), rfl, by decide +kernel, by decide +kernel⟩
theorem zJok_118 : zJok (yX11_liar, cX11_liar, 2, (some .int)) zT_118 := ⟨zmr4 (n := 177) rfl (by decide +kernel), zmq1 (n := 1) (by decide +kernel), by decide +kernel, by decide +kernel, rfl, by decide +kernel, zckF_ok (by decide +kernel), rfl, by decide +kernel, by decide +kernel⟩
theorem zJok_119 : zJok (yX11_seed, cX11_seed, 3, (some .int)) zT_119 := ⟨zmr4 (n := 181) rfl (by decide +kernel), zmq1 (n := 1) (by decide +kernel), by decide +kernel, by decide +kernel, rfl, by decide +kernel, zckF_ok (by decide +kernel), rfl, by decide +kernel, by decide +kernel⟩
theorem zJok_120 : zJok (yX11_draw, cX11_draw, 1, (some .int)) zT_120 := ⟨zmr4 (n := 185) rfl (by decide +kernel), zmq1 (n := 1) (by decide +kernel), by decide +kernel, by decide +kernel, rfl, by decide +kernel, zckF_ok (by decide +kernel), rfl, by decide +kernel, by decide +kernel⟩
theorem zJok_121 : zJok (yX11_often, cX11_often, 6, (some .int)) zT_121 := ⟨zmr4 (n := 196) rfl (by decide +kernel), zmq1 (n := 1) (by decide +kernel), by decide +kernel, by decide +kernel, rfl, by decide +kernel, zckF_ok (by decide +kernel), rfl, by decide +kernel, by decide +kernel⟩
theorem zJok_122 : zJok (yX11_drawnFrom, cX11_drawnFrom, 1, (some .int)) zT_122 := ⟨zmr4 (n := 188) rfl (by decide +kernel), zmq1 (n := 1) (by decide +kernel), by decide +kernel, by decide +kernel, rfl, by decide +kernel, zckF_ok (by decide +kernel), rfl, by decide +kernel, by decide +kernel⟩
theorem zJok_123 : zJok (yX11_windOf, cX11_windOf, 1, (some .int)) zT_123 := ⟨zmr4 (n := 192) rfl (by decide +kernel), zmq1 (n := 1) (by decide +kernel), by decide +kernel, by decide +kernel, rfl, by decide +kernel, zckF_ok (by decide +kernel), rfl, by decide +kernel, by decide +kernel⟩
theorem zJok_124 : zJok (yX11_prove, cX11_prove, 2, (some .int)) zT_124 := ⟨zmr4 (n := 200) rfl (by decide +kernel), zmq1 (n := 1) (by decide +kernel), by decide +kernel, by decide +kernel, rfl, by decide +kernel, zckF_ok (by decide +kernel), rfl, by decide +kernel, by decide +kernel⟩
theorem zJok_125 : zJok (yX11_row, cX11_row, 3, (some .int)) zT_125 := ⟨zmr4 (n := 211) rfl (by decide +kernel), zmq1 (n := 1) (by decide +kernel), by decide +kernel, by decide +kernel, rfl, by decide +kernel, zckF_ok (by decide +kernel), rfl, by decide +kernel, by decide +kernel⟩
theorem zJok_126 : zJok (yX11_alterRow, cX11_alterRow, 4, (some .int)) zT_126 := ⟨zmr4 (n := 219) rfl (by decide +kernel), zmq1 (n := 1) (by decide +kernel), by decide +kernel, by decide +kernel, rfl, by decide +kernel, zckF_ok (by decide +kernel), rfl, by decide +kernel, by decide +kernel⟩
theorem zJok_127 : zJok (yX11_judge, cX11_judge, 1, (some .int)) zT_127 := ⟨zmr4 (n := 223) rfl (by decide +kernel), zmq1 (n := 1) (by decide +kernel), by decide +kernel, by decide +kernel, rfl, by decide +kernel, zckF_ok (by decide +kernel), rfl, by decide +kernel, by decide +kernel⟩
theorem zJok_128 : zJok (yX11_sheet, cX11_sheet, 4, (some .int)) zT_128 := ⟨zmr4 (n := 231) rfl (by decide +kernel), zmq1 (n := 1) (by decide +kernel), by decide +kernel, by decide +kernel, rfl, by decide +kernel, zckF_ok (by decide +kernel), rfl, by decide +kernel, by decide +kernel⟩
theorem zJok_129 : zJok (yX11_write, cX11_write, 4, (some .int)) zT_129 := ⟨zmr5 (n := 2) rfl (by decide +kernel), zmq1 (n := 1) (by decide +kernel), by decide +kernel, by decide +kernel, rfl, by decide +kernel, zckF_ok (by decide +kernel), rfl, by decide +kernel, by decide +kernel⟩
theorem zJok_130 : zJok (yX11_item, cX11_item, 5, (some .int)) zT_130 := ⟨zmr5 (n := 13) rfl (by decide +kernel), zmq1 (n := 1) (by decide +kernel), by decide +kernel, by decide +kernel, rfl, by decide +kernel, zckF_ok (by decide +kernel), rfl, by decide +kernel, by decide +kernel⟩
theorem zJok_131 : zJok (yX11_climbs, cX11_climbs, 9, (some .int)) zT_131 := ⟨zmr5 (n := 21) rfl (by decide +kernel), zmq1 (n := 1) (by decide +kernel), by decide +kernel, by decide +kernel, rfl, by decide +kernel, zckF_ok (by decide +kernel), rfl, by decide +kernel, by decide +kernel⟩
theorem zJok_132 : zJok (yX11_shelf, cX11_shelf, 4, (some .int)) zT_132 := ⟨zmr5 (n := 25) rfl (by decide +kernel), zmq1 (n := 1) (by decide +kernel), by decide +kernel, by decide +kernel, rfl, by decide +kernel, zckF_ok (by decide +kernel), rfl, by decide +kernel, by decide +kernel⟩
theorem zJok_133 : zJok (yX11_taken, cX11_taken, 5, (some .int)) zT_133 := ⟨zmr5 (n := 41) rfl (by decide +kernel), zmq1 (n := 1) (by decide +kernel), by decide +kernel, by decide +kernel, rfl, by decide +kernel, zckF_ok (by decide +kernel), rfl, by decide +kernel, by decide +kernel⟩
theorem zJok_134 : zJok (yX11_act, cX11_act, 6, (some .int)) zT_134 := ⟨zmr5 (n := 58) rfl (by decide +kernel), zmq1 (n := 1) (by decide +kernel), by decide +kernel, by decide +kernel, rfl, by decide +kernel, zckF_ok (by decide +kernel), rfl, by decide +kernel, by decide +kernel⟩
theorem zJok_135 : zJok (yX11_trace, cX11_trace, 2, (some .int)) zT_135 := ⟨zmr5 (n := 109) rfl (by decide +kernel), zmq1 (n := 1) (by decide +kernel), by decide +kernel, by decide +kernel, rfl, by decide +kernel, zckF_ok (by decide +kernel), rfl, by decide +kernel, by decide +kernel⟩
theorem zJok_136 : zJok (yX11_many, cX11_many, 2, (some .int)) zT_136 := ⟨zmr5 (n := 113) rfl (by decide +kernel), zmq1 (n := 1) (by decide +kernel), by decide +kernel, by decide +kernel, rfl, by decide +kernel, zckF_ok (by decide +kernel), rfl, by decide +kernel, by decide +kernel⟩
theorem zJok_137 : zJok (yX11_boughOn, cX11_boughOn, 3, (some .int)) zT_137 := ⟨zmr5 (n := 49) rfl (by decide +kernel), zmq1 (n := 1) (by decide +kernel), by decide +kernel, by decide +kernel, rfl, by decide +kernel, zckF_ok (by decide +kernel), rfl, by decide +kernel, by decide +kernel⟩
theorem zJok_138 : zJok (yX11_narrowed, cX11_narrowed, 2, (some .long)) zT_138 := ⟨zmr5 (n := 9) rfl (by decide +kernel), zmq1 (n := 1) (by decide +kernel), by decide +kernel, by decide +kernel, rfl, by decide +kernel, zckF_ok (by decide +kernel), rfl, by decide +kernel, by decide +kernel⟩
theorem zJok_139 : zJok (yX11_keep, cX11_keep, 1, (some .int)) zT_139 := ⟨zmr5 (n := 117) rfl (by decide +kernel), zmq1 (n := 1) (by decide +kernel), by decide +kernel, by decide +kernel, rfl, by decide +kernel, zckF_ok (by decide +kernel), rfl, by decide +kernel, by decide +kernel⟩
theorem zJok_140 : zJok (yX11_again, cX11_again, 1, (some .int)) zT_140 := ⟨zmr5 (n := 121) rfl (by decide +kernel), zmq1 (n := 1) (by decide +kernel), by decide +kernel, by decide +kernel, rfl, by decide +kernel, zckF_ok (by decide +kernel), rfl, by decide +kernel, by decide +kernel⟩
theorem zJok_141 : zJok (yX11_isWithin, cX11_isWithin, 3, (some .boolean)) zT_141 := ⟨zmr2 (n := 151) rfl (by decide +kernel), zmq1 (n := 1) (by decide +kernel), by decide +kernel, by decide +kernel, rfl, by decide +kernel, zckF_ok (by decide +kernel), rfl, by decide +kernel, by decide +kernel⟩
theorem zJok_142 : zJok (yX11_isBoughKind, cX11_isBoughKind, 1, (some .boolean)) zT_142 := ⟨zmr2 (n := 148) rfl (by decide +kernel), zmq1 (n := 1) (by decide +kernel), by decide +kernel, by decide +kernel, rfl, by decide +kernel, zckF_ok (by decide +kernel), rfl, by decide +kernel, by decide +kernel⟩
theorem zJok_143 : zJok (yX11_isSide, cX11_isSide, 1, (some .boolean)) zT_143 := ⟨zmr3 (n := 181) rfl (by decide +kernel), zmq1 (n := 1) (by decide +kernel), by decide +kernel, by decide +kernel, rfl, by decide +kernel, zckF_ok (by decide +kernel), rfl, by decide +kernel, by decide +kernel⟩
theorem zJok_144 : zJok (yX11_isPlace, cX11_isPlace, 1, (some .boolean)) zT_144 := ⟨zmr4 (n := 234) rfl (by decide +kernel), zmq1 (n := 1) (by decide +kernel), by decide +kernel, by decide +kernel, rfl, by decide +kernel, zckF_ok (by decide +kernel), rfl, by decide +kernel, by decide +kernel⟩
theorem zJok_145 : zJok (yX11_isIn, cX11_isIn, 2, (some .boolean)) zT_145 := ⟨zmr2 (n := 163) rfl (by decide +kernel), zmq1 (n := 1) (by decide +kernel), by decide +kernel, by decide +kernel, rfl, by decide +kernel, zckF_ok (by decide +kernel), rfl, by decide +kernel, by decide +kernel⟩
theorem zJok_146 : zJok (yX11_isKindOf, cX11_isKindOf, 2, (some .boolean)) zT_146 := ⟨zmr2 (n := 186) rfl (by decide +kernel), zmq1 (n := 1) (by decide +kernel), by decide +kernel, by decide +kernel, rfl, by decide +kernel, zckF_ok (by decide +kernel), rfl, by decide +kernel, by decide +kernel⟩
theorem zJok_147 : zJok (yX11_replaced, cX11_replaced, 4, (some .int)) zT_147 := ⟨zmr2 (n := 223) rfl (by decide +kernel), zmq1 (n := 1) (by decide +kernel), by decide +kernel, by decide +kernel, rfl, by decide +kernel, zckF_ok (by decide +kernel), rfl, by decide +kernel, by decide +kernel⟩
theorem zJok_148 : zJok (yX11_copyRow, cX11_copyRow, 2, none) zT_148 := ⟨zmr3 (n := 167) rfl (by decide +kernel), zmq1 (n := 1) (by decide +kernel), by decide +kernel, by decide +kernel, rfl, by decide +kernel, zckF_ok (by decide +kernel), rfl, by decide +kernel, by decide +kernel⟩
theorem zJok_149 : zJok (yX12_in, cX12_in, 6, (some .boolean)) zT_149 := ⟨zmr6 (n := 7) rfl (by decide +kernel), zmq1 (n := 13) (by decide +kernel), by decide +kernel, by decide +kernel, rfl, by decide +kernel, zckF_ok (by decide +kernel), rfl, by decide +kernel, by decide +kernel⟩
theorem zJok_150 : zJok (yX12_isBough, cX12_isBough, 2, (some .boolean)) zT_150 := ⟨zmr6 (n := 11) rfl (by decide +kernel), zmq1 (n := 13) (by decide +kernel), by decide +kernel, by decide +kernel, rfl, by decide +kernel, zckF_ok (by decide +kernel), rfl, by decide +kernel, by decide +kernel⟩
theorem zJok_151 : zJok (yX12_isPerson, cX12_isPerson, 2, (some .boolean)) zT_151 := ⟨zmr6 (n := 110) rfl (by decide +kernel), zmq1 (n := 13) (by decide +kernel), by decide +kernel, by decide +kernel, rfl, by decide +kernel, zckF_ok (by decide +kernel), rfl, by decide +kernel, by decide +kernel⟩
theorem zJok_152 : zJok (yX12_has, cX12_has, 2, (some .boolean)) zT_152 := ⟨zmr6 (n := 234) rfl (by decide +kernel), zmq1 (n := 13) (by decide +kernel), by decide +kernel, by decide +kernel, rfl, by decide +kernel, zckF_ok (by decide +kernel), rfl, by decide +kernel, by decide +kernel⟩
theorem zJok_153 : zJok (yX12_puts, cX12_puts, 2, none) zT_153 := ⟨zmr6 (n := 163) rfl (by decide +kernel), zmq1 (n := 13) (by decide +kernel), by decide +kernel, by decide +kernel, rfl, by decide +kernel, zckF_ok (by decide +kernel), rfl, by decide +kernel, by decide +kernel⟩
theorem zJok_154 : zJok (yX12_putsBack, cX12_putsBack, 2, none) zT_154 := ⟨zmr6 (n := 167) rfl (by decide +kernel), zmq1 (n := 13) (by decide +kernel), by decide +kernel, by decide +kernel, rfl, by decide +kernel, zckF_ok (by decide +kernel), rfl, by decide +kernel, by decide +kernel⟩
theorem zJok_155 : zJok (yX12_at, cX12_at, 2, (some .int)) zT_155 := ⟨zmr6 (n := 27) rfl (by decide +kernel), zmq1 (n := 13) (by decide +kernel), by decide +kernel, by decide +kernel, rfl, by decide +kernel, zckF_ok (by decide +kernel), rfl, by decide +kernel, by decide +kernel⟩
theorem zJok_156 : zJok (yX12_its, cX12_its, 3, (some .int)) zT_156 := ⟨zmr6 (n := 24) rfl (by decide +kernel), zmq1 (n := 13) (by decide +kernel), by decide +kernel, by decide +kernel, rfl, by decide +kernel, zckF_ok (by decide +kernel), rfl, by decide +kernel, by decide +kernel⟩
theorem zJok_157 : zJok (yX12_isBroken, cX12_isBroken, 2, (some .boolean)) zT_157 := ⟨zmr6 (n := 20) rfl (by decide +kernel), zmq1 (n := 13) (by decide +kernel), by decide +kernel, by decide +kernel, rfl, by decide +kernel, zckF_ok (by decide +kernel), rfl, by decide +kernel, by decide +kernel⟩
theorem zJok_158 : zJok (yX12_below, cX12_below, 2, (some .int)) zT_158 := ⟨zmr6 (n := 81) rfl (by decide +kernel), zmq1 (n := 13) (by decide +kernel), by decide +kernel, by decide +kernel, rfl, by decide +kernel, zckF_ok (by decide +kernel), rfl, by decide +kernel, by decide +kernel⟩
theorem zJok_159 : zJok (yX12_isPart, cX12_isPart, 2, (some .boolean)) zT_159 := ⟨zmr6 (n := 14) rfl (by decide +kernel), zmq1 (n := 13) (by decide +kernel), by decide +kernel, by decide +kernel, rfl, by decide +kernel, zckF_ok (by decide +kernel), rfl, by decide +kernel, by decide +kernel⟩
theorem zJok_160 : zJok (yX12_bough, cX12_bough, 6, (some .int)) zT_160 := ⟨zmr6 (n := 3) rfl (by decide +kernel), zmq1 (n := 13) (by decide +kernel), by decide +kernel, by decide +kernel, rfl, by decide +kernel, zckF_ok (by decide +kernel), rfl, by decide +kernel, by decide +kernel⟩
theorem zJok_161 : zJok (yX12_isUnder, cX12_isUnder, 2, (some .boolean)) zT_161 := ⟨zmr6 (n := 47) rfl (by decide +kernel), zmq1 (n := 13) (by decide +kernel), by decide +kernel, by decide +kernel, rfl, by decide +kernel, zckF_ok (by decide +kernel), rfl, by decide +kernel, by decide +kernel⟩
theorem zJok_162 : zJok (yX12_fact, cX12_fact, 3, (some .int)) zT_162 := ⟨zmr6 (n := 55) rfl (by decide +kernel), zmq1 (n := 13) (by decide +kernel), by decide +kernel, by decide +kernel, rfl, by decide +kernel, zckF_ok (by decide +kernel), rfl, by decide +kernel, by decide +kernel⟩
theorem zJok_163 : zJok (yX12_isHolding, cX12_isHolding, 3, (some .boolean)) zT_163 := ⟨zmr6 (n := 58) rfl (by decide +kernel), zmq1 (n := 13) (by decide +kernel), by decide +kernel, by decide +kernel, rfl, by decide +kernel, zckF_ok (by decide +kernel), rfl, by decide +kernel, by decide +kernel⟩
theorem zJok_164 : zJok (yX12_isSo, cX12_isSo, 7, (some .boolean)) zT_164 := ⟨zmr6 (n := 51) rfl (by decide +kernel), zmq1 (n := 13) (by decide +kernel), by decide +kernel, by decide +kernel, rfl, by decide +kernel, zckF_ok (by decide +kernel), rfl, by decide +kernel, by decide +kernel⟩
theorem zJok_165 : zJok (yX12_holdsNow, cX12_holdsNow, 9, (some .int)) zT_165 := ⟨zmr6 (n := 44) rfl (by decide +kernel), zmq1 (n := 13) (by decide +kernel), by decide +kernel, by decide +kernel, rfl, by decide +kernel, zckF_ok (by decide +kernel), rfl, by decide +kernel, by decide +kernel⟩
theorem zJok_166 : zJok (yX12_findHolds, cX12_findHolds, 2, none) zT_166 := ⟨zmr6 (n := 40) rfl (by decide +kernel), zmq1 (n := 13) (by decide +kernel), by decide +kernel, by decide +kernel, rfl, by decide +kernel, zckF_ok (by decide +kernel), rfl, by decide +kernel, by decide +kernel⟩
theorem zJok_167 : zJok (yX12_loads, cX12_loads, 4, none) zT_167 := ⟨zmr6 (n := 77) rfl (by decide +kernel), zmq1 (n := 13) (by decide +kernel), by decide +kernel, by decide +kernel, rfl, by decide +kernel, zckF_ok (by decide +kernel), rfl, by decide +kernel, by decide +kernel⟩
theorem zJok_168 : zJok (yX12_findBears, cX12_findBears, 2, none) zT_168 := ⟨zmr6 (n := 62) rfl (by decide +kernel), zmq1 (n := 13) (by decide +kernel), by decide +kernel, by decide +kernel, rfl, by decide +kernel, zckF_ok (by decide +kernel), rfl, by decide +kernel, by decide +kernel⟩
theorem zJok_169 : zJok (yX12_isCracking, cX12_isCracking, 2, (some .boolean)) zT_169 := ⟨zmr6 (n := 85) rfl (by decide +kernel), zmq1 (n := 13) (by decide +kernel), by decide +kernel, by decide +kernel, rfl, by decide +kernel, zckF_ok (by decide +kernel), rfl, by decide +kernel, by decide +kernel⟩
theorem zJok_170 : zJok (yX12_crackSet, cX12_crackSet, 3, (some .int)) zT_170 := ⟨zmr6 (n := 135) rfl (by decide +kernel), zmq1 (n := 13) (by decide +kernel), by decide +kernel, by decide +kernel, rfl, by decide +kernel, zckF_ok (by decide +kernel), rfl, by decide +kernel, by decide +kernel⟩
theorem zJok_171 : zJok (yX12_isSafe, cX12_isSafe, 1, (some .boolean)) zT_171 := ⟨zmr6 (n := 199) rfl (by decide +kernel), zmq1 (n := 13) (by decide +kernel), by decide +kernel, by decide +kernel, rfl, by decide +kernel, zckF_ok (by decide +kernel), rfl, by decide +kernel, by decide +kernel⟩
theorem zJok_172 : zJok (yX12_findAll, cX12_findAll, 1, none) zT_172 := ⟨zmr6 (n := 36) rfl (by decide +kernel), zmq1 (n := 13) (by decide +kernel), by decide +kernel, by decide +kernel, rfl, by decide +kernel, zckF_ok (by decide +kernel), rfl, by decide +kernel, by decide +kernel⟩
theorem zJok_173 : zJok (yX12_boughOf, cX12_boughOf, 3, (some .int)) zT_173 := ⟨zmr6 (n := 31) rfl (by decide +kernel), zmq1 (n := 13) (by decide +kernel), by decide +kernel, by decide +kernel, rfl, by decide +kernel, zckF_ok (by decide +kernel), rfl, by decide +kernel, by decide +kernel⟩
theorem zJok_174 : zJok (yX12_change, cX12_change, 5, (some .int)) zT_174 := ⟨zmr6 (n := 89) rfl (by decide +kernel), zmq1 (n := 13) (by decide +kernel), by decide +kernel, by decide +kernel, rfl, by decide +kernel, zckF_ok (by decide +kernel), rfl, by decide +kernel, by decide +kernel⟩
theorem zJok_175 : zJok (yX12_graft, cX12_graft, 4, (some .int)) zT_175 := ⟨zmr6 (n := 93) rfl (by decide +kernel), zmq1 (n := 13) (by decide +kernel), by decide +kernel, by decide +kernel, rfl, by decide +kernel, zckF_ok (by decide +kernel), rfl, by decide +kernel, by decide +kernel⟩
theorem zJok_176 : zJok (yX12_weather, cX12_weather, 4, (some .int)) zT_176 := ⟨zmr6 (n := 97) rfl (by decide +kernel), zmq1 (n := 13) (by decide +kernel), by decide +kernel, by decide +kernel, rfl, by decide +kernel, zckF_ok (by decide +kernel), rfl, by decide +kernel, by decide +kernel⟩
theorem zJok_177 : zJok (yX12_where, cX12_where, 2, (some .int)) zT_177 := ⟨zmr6 (n := 73) rfl (by decide +kernel), zmq1 (n := 13) (by decide +kernel), by decide +kernel, by decide +kernel, rfl, by decide +kernel, zckF_ok (by decide +kernel), rfl, by decide +kernel, by decide +kernel⟩
theorem zJok_178 : zJok (yX12_whose, cX12_whose, 3, (some .int)) zT_178 := ⟨zmr6 (n := 70) rfl (by decide +kernel), zmq1 (n := 13) (by decide +kernel), by decide +kernel, by decide +kernel, rfl, by decide +kernel, zckF_ok (by decide +kernel), rfl, by decide +kernel, by decide +kernel⟩
theorem zJok_179 : zJok (yX12_seatOf, cX12_seatOf, 2, (some .int)) zT_179 := ⟨zmr6 (n := 66) rfl (by decide +kernel), zmq1 (n := 13) (by decide +kernel), by decide +kernel, by decide +kernel, rfl, by decide +kernel, zckF_ok (by decide +kernel), rfl, by decide +kernel, by decide +kernel⟩
theorem zJok_180 : zJok (yX12_seats, cX12_seats, 3, none) zT_180 := ⟨zmr6 (n := 123) rfl (by decide +kernel), zmq1 (n := 13) (by decide +kernel), by decide +kernel, by decide +kernel, rfl, by decide +kernel, zckF_ok (by decide +kernel), rfl, by decide +kernel, by decide +kernel⟩
theorem zJok_181 : zJok (yX12_person, cX12_person, 4, (some .int)) zT_181 := ⟨zmr6 (n := 101) rfl (by decide +kernel), zmq1 (n := 13) (by decide +kernel), by decide +kernel, by decide +kernel, rfl, by decide +kernel, zckF_ok (by decide +kernel), rfl, by decide +kernel, by decide +kernel⟩
theorem zJok_182 : zJok (yX12_toldSeat, cX12_toldSeat, 2, (some .int)) zT_182 := ⟨zmr6 (n := 115) rfl (by decide +kernel), zmq1 (n := 13) (by decide +kernel), by decide +kernel, by decide +kernel, rfl, by decide +kernel, zckF_ok (by decide +kernel), rfl, by decide +kernel, by decide +kernel⟩
theorem zJok_183 : zJok (yX12_personOf, cX12_personOf, 3, (some .int)) zT_183 := ⟨zmr6 (n := 106) rfl (by decide +kernel), zmq1 (n := 13) (by decide +kernel), by decide +kernel, by decide +kernel, rfl, by decide +kernel, zckF_ok (by decide +kernel), rfl, by decide +kernel, by decide +kernel⟩
theorem zJok_184 : zJok (yX12_sit, cX12_sit, 4, (some .int)) zT_184 := ⟨zmr6 (n := 119) rfl (by decide +kernel), zmq1 (n := 13) (by decide +kernel), by decide +kernel, by decide +kernel, rfl, by decide +kernel, zckF_ok (by decide +kernel), rfl, by decide +kernel, by decide +kernel⟩
theorem zJok_185 : zJok (yX12_down, cX12_down, 3, (some .int)) zT_185 := ⟨zmr6 (n := 127) rfl (by decide +kernel), zmq1 (n := 13) (by decide +kernel), by decide +kernel, by decide +kernel, rfl, by decide +kernel, zckF_ok (by decide +kernel), rfl, by decide +kernel, by decide +kernel⟩
theorem zJok_186 : zJok (yX12_cracks, cX12_cracks, 1, (some .int)) zT_186 := ⟨zmr6 (n := 131) rfl (by decide +kernel), zmq1 (n := 13) (by decide +kernel), by decide +kernel, by decide +kernel, rfl, by decide +kernel, zckF_ok (by decide +kernel), rfl, by decide +kernel, by decide +kernel⟩
theorem zJok_187 : zJok (yX12_worstOf, cX12_worstOf, 3, (some .int)) zT_187 := ⟨zmr6 (n := 143) rfl (by decide +kernel), zmq1 (n := 13) (by decide +kernel), by decide +kernel, by decide +kernel, rfl, by decide +kernel, zckF_ok (by decide +kernel), rfl, by decide +kernel, by decide +kernel⟩
theorem zJok_188 : zJok (yX12_worst, cX12_worst, 2, (some .int)) zT_188 := ⟨zmr6 (n := 139) rfl (by decide +kernel), zmq1 (n := 13) (by decide +kernel), by decide +kernel, by decide +kernel, rfl, by decide +kernel, zckF_ok (by decide +kernel), rfl, by decide +kernel, by decide +kernel⟩
theorem zJok_189 : zJok (yX12_isAbove, cX12_isAbove, 4, (some .boolean)) zT_189 := ⟨zmr6 (n := 155) rfl (by decide +kernel), zmq1 (n := 13) (by decide +kernel), by decide +kernel, by decide +kernel, rfl, by decide +kernel, zckF_ok (by decide +kernel), rfl, by decide +kernel, by decide +kernel⟩
theorem zJok_190 : zJok (yX12_falls, cX12_falls, 4, (some .int)) zT_190 := ⟨zmr6 (n := 151) rfl (by decide +kernel), zmq1 (n := 13) (by decide +kernel), by decide +kernel, by decide +kernel, rfl, by decide +kernel, zckF_ok (by decide +kernel), rfl, by decide +kernel, by decide +kernel⟩
theorem zJok_191 : zJok (yX12_fall, cX12_fall, 1, (some .int)) zT_191 := ⟨zmr6 (n := 147) rfl (by decide +kernel), zmq1 (n := 13) (by decide +kernel), by decide +kernel, by decide +kernel, rfl, by decide +kernel, zckF_ok (by decide +kernel), rfl, by decide +kernel, by decide +kernel⟩
theorem zJok_192 : zJok (yX12_would, cX12_would, 2, (some .int)) zT_192 := ⟨zmr6 (n := 159) rfl (by decide +kernel), zmq1 (n := 13) (by decide +kernel), by decide +kernel, by decide +kernel, rfl, by decide +kernel, zckF_ok (by decide +kernel), rfl, by decide +kernel, by decide +kernel⟩
theorem zJok_193 : zJok (yX12_findStanding, cX12_findStanding, 3, none) zT_193 := ⟨zmr6 (n := 175) rfl (by decide +kernel), zmq1 (n := 13) (by decide +kernel), by decide +kernel, by decide +kernel, rfl, by decide +kernel, zckF_ok (by decide +kernel), rfl, by decide +kernel, by decide +kernel⟩
theorem zJok_194 : zJok (yX12_standing, cX12_standing, 2, (some .int)) zT_194 := ⟨zmr6 (n := 171) rfl (by decide +kernel), zmq1 (n := 13) (by decide +kernel), by decide +kernel, by decide +kernel, rfl, by decide +kernel, zckF_ok (by decide +kernel), rfl, by decide +kernel, by decide +kernel⟩
theorem zJok_195 : zJok (yX12_verdict, cX12_verdict, 1, (some .int)) zT_195 := ⟨zmr6 (n := 179) rfl (by decide +kernel), zmq1 (n := 13) (by decide +kernel), by decide +kernel, by decide +kernel, rfl, by decide +kernel, zckF_ok (by decide +kernel), rfl, by decide +kernel, by decide +kernel⟩
theorem zJok_196 : zJok (yX12_roomOf, cX12_roomOf, 4, (some .int)) zT_196 := ⟨zmr6 (n := 187) rfl (by decide +kernel), zmq1 (n := 13) (by decide +kernel), by decide +kernel, by decide +kernel, rfl, by decide +kernel, zckF_ok (by decide +kernel), rfl, by decide +kernel, by decide +kernel⟩
theorem zJok_197 : zJok (yX12_room, cX12_room, 2, (some .int)) zT_197 := ⟨zmr6 (n := 183) rfl (by decide +kernel), zmq1 (n := 13) (by decide +kernel), by decide +kernel, by decide +kernel, rfl, by decide +kernel, zckF_ok (by decide +kernel), rfl, by decide +kernel, by decide +kernel⟩
theorem zJok_198 : zJok (yX12_best, cX12_best, 5, (some .int)) zT_198 := ⟨zmr6 (n := 191) rfl (by decide +kernel), zmq1 (n := 13) (by decide +kernel), by decide +kernel, by decide +kernel, rfl, by decide +kernel, zckF_ok (by decide +kernel), rfl, by decide +kernel, by decide +kernel⟩
theorem zJok_199 : zJok (yX12_safe, cX12_safe, 5, (some .int)) zT_199 := ⟨zmr6 (n := 195) rfl (by decide +kernel), zmq1 (n := 13) (by decide +kernel), by decide +kernel, by decide +kernel, rfl, by decide +kernel, zckF_ok (by decide +kernel), rfl, by decide +kernel, by decide +kernel⟩
theorem zJok_200 : zJok (yX12_prop, cX12_prop, 5, (some .int)) zT_200 := ⟨zmr6 (n := 203) rfl (by decide +kernel), zmq1 (n := 13) (by decide +kernel), by decide +kernel, by decide +kernel, rfl, by decide +kernel, zckF_ok (by decide +kernel), rfl, by decide +kernel, by decide +kernel⟩
theorem zJok_201 : zJok (yX12_leastOf, cX12_leastOf, 6, (some .int)) zT_201 := ⟨zmr6 (n := 211) rfl (by decide +kernel), zmq1 (n := 13) (by decide +kernel), by decide +kernel, by decide +kernel, rfl, by decide +kernel, zckF_ok (by decide +kernel), rfl, by decide +kernel, by decide +kernel⟩
theorem zJok_202 : zJok (yX12_windFor, cX12_windFor, 1, (some .int)) zT_202 := ⟨zmr6 (n := 207) rfl (by decide +kernel), zmq1 (n := 13) (by decide +kernel), by decide +kernel, by decide +kernel, rfl, by decide +kernel, zckF_ok (by decide +kernel), rfl, by decide +kernel, by decide +kernel⟩
theorem zJok_203 : zJok (yX12_sapFor, cX12_sapFor, 1, (some .int)) zT_203 := ⟨zmr6 (n := 215) rfl (by decide +kernel), zmq1 (n := 13) (by decide +kernel), by decide +kernel, by decide +kernel, rfl, by decide +kernel, zckF_ok (by decide +kernel), rfl, by decide +kernel, by decide +kernel⟩
theorem zJok_204 : zJok (yX12_ones, cX12_ones, 3, (some .int)) zT_204 := ⟨zmr6 (n := 226) rfl (by decide +kernel), zmq1 (n := 13) (by decide +kernel), by decide +kernel, by decide +kernel, rfl, by decide +kernel, zckF_ok (by decide +kernel), rfl, by decide +kernel, by decide +kernel⟩
theorem zJok_205 : zJok (yX12_isParty, cX12_isParty, 2, (some .boolean)) zT_205 := ⟨zmr6 (n := 223) rfl (by decide +kernel), zmq1 (n := 13) (by decide +kernel), by decide +kernel, by decide +kernel, rfl, by decide +kernel, zckF_ok (by decide +kernel), rfl, by decide +kernel, by decide +kernel⟩
theorem zJok_206 : zJok (yX12_canSeat, cX12_canSeat, 3, (some .boolean)) zT_206 := ⟨zmr6 (n := 238) rfl (by decide +kernel), zmq1 (n := 13) (by decide +kernel), by decide +kernel, by decide +kernel, rfl, by decide +kernel, zckF_ok (by decide +kernel), rfl, by decide +kernel, by decide +kernel⟩
theorem zJok_207 : zJok (yX12_findSeating, cX12_findSeating, 4, (some .boolean)) zT_207 := ⟨zmr6 (n := 231) rfl (by decide +kernel), zmq1 (n := 13) (by decide +kernel), by decide +kernel, by decide +kernel, rfl, by decide +kernel, zckF_ok (by decide +kernel), rfl, by decide +kernel, by decide +kernel⟩
theorem zJok_208 : zJok (yX12_seat, cX12_seat, 3, (some .int)) zT_208 := ⟨zmr6 (n := 219) rfl (by decide +kernel), zmq1 (n := 13) (by decide +kernel), by decide +kernel, by decide +kernel, rfl, by decide +kernel, zckF_ok (by decide +kernel), rfl, by decide +kernel, by decide +kernel⟩
theorem zJok_209 : zJok (yX12_seatAll, cX12_seatAll, 3, (some .int)) zT_209 := ⟨zmr7 (n := 2) rfl (by decide +kernel), zmq1 (n := 13) (by decide +kernel), by decide +kernel, by decide +kernel, rfl, by decide +kernel, zckF_ok (by decide +kernel), rfl, by decide +kernel, by decide +kernel⟩
theorem zJok_210 : zJok (yX12_idler, cX12_idler, 3, (some .int)) zT_210 := ⟨zmr7 (n := 18) rfl (by decide +kernel), zmq1 (n := 13) (by decide +kernel), by decide +kernel, by decide +kernel, rfl, by decide +kernel, zckF_ok (by decide +kernel), rfl, by decide +kernel, by decide +kernel⟩
theorem zJok_211 : zJok (yX12_worthOf, cX12_worthOf, 2, (some .int)) zT_211 := ⟨zmr7 (n := 25) rfl (by decide +kernel), zmq1 (n := 13) (by decide +kernel), by decide +kernel, by decide +kernel, rfl, by decide +kernel, zckF_ok (by decide +kernel), rfl, by decide +kernel, by decide +kernel⟩
theorem zJok_212 : zJok (yX12_leadsTo, cX12_leadsTo, 6, (some .int)) zT_212 := ⟨zmr7 (n := 22) rfl (by decide +kernel), zmq1 (n := 13) (by decide +kernel), by decide +kernel, by decide +kernel, rfl, by decide +kernel, zckF_ok (by decide +kernel), rfl, by decide +kernel, by decide +kernel⟩
theorem zJok_213 : zJok (yX12_valueOf, cX12_valueOf, 7, (some .int)) zT_213 := ⟨zmr7 (n := 14) rfl (by decide +kernel), zmq1 (n := 13) (by decide +kernel), by decide +kernel, by decide +kernel, rfl, by decide +kernel, zckF_ok (by decide +kernel), rfl, by decide +kernel, by decide +kernel⟩
theorem zJok_214 : zJok (yX12_isGame, cX12_isGame, 2, (some .boolean)) zT_214 := ⟨zmr7 (n := 9) rfl (by decide +kernel), zmq1 (n := 13) (by decide +kernel), by decide +kernel, by decide +kernel, rfl, by decide +kernel, zckF_ok (by decide +kernel), rfl, by decide +kernel, by decide +kernel⟩
theorem zJok_215 : zJok (yX12_game, cX12_game, 3, (some .int)) zT_215 := ⟨zmr7 (n := 6) rfl (by decide +kernel), zmq1 (n := 13) (by decide +kernel), by decide +kernel, by decide +kernel, rfl, by decide +kernel, zckF_ok (by decide +kernel), rfl, by decide +kernel, by decide +kernel⟩
theorem zJok_216 : zJok (yX12_move, cX12_move, 6, (some .int)) zT_216 := ⟨zmr7 (n := 29) rfl (by decide +kernel), zmq1 (n := 13) (by decide +kernel), by decide +kernel, by decide +kernel, rfl, by decide +kernel, zckF_ok (by decide +kernel), rfl, by decide +kernel, by decide +kernel⟩
theorem zJok_217 : zJok (yX12_report, cX12_report, 3, (some .int)) zT_217 := ⟨zmr7 (n := 33) rfl (by decide +kernel), zmq1 (n := 13) (by decide +kernel), by decide +kernel, by decide +kernel, rfl, by decide +kernel, zckF_ok (by decide +kernel), rfl, by decide +kernel, by decide +kernel⟩
theorem zJok_218 : zJok (yX12_forget, cX12_forget, 2, (some .int)) zT_218 := ⟨zmr7 (n := 37) rfl (by decide +kernel), zmq1 (n := 13) (by decide +kernel), by decide +kernel, by decide +kernel, rfl, by decide +kernel, zckF_ok (by decide +kernel), rfl, by decide +kernel, by decide +kernel⟩
theorem zJok_219 : zJok (yX12_isCracked, cX12_isCracked, 5, (some .boolean)) zT_219 := ⟨zmr7 (n := 49) rfl (by decide +kernel), zmq1 (n := 13) (by decide +kernel), by decide +kernel, by decide +kernel, rfl, by decide +kernel, zckF_ok (by decide +kernel), rfl, by decide +kernel, by decide +kernel⟩
theorem zJok_220 : zJok (yX12_findFits, cX12_findFits, 6, none) zT_220 := ⟨zmr7 (n := 45) rfl (by decide +kernel), zmq1 (n := 13) (by decide +kernel), by decide +kernel, by decide +kernel, rfl, by decide +kernel, zckF_ok (by decide +kernel), rfl, by decide +kernel, by decide +kernel⟩
theorem zJok_221 : zJok (yX12_span, cX12_span, 2, (some .int)) zT_221 := ⟨zmr7 (n := 41) rfl (by decide +kernel), zmq1 (n := 13) (by decide +kernel), by decide +kernel, by decide +kernel, rfl, by decide +kernel, zckF_ok (by decide +kernel), rfl, by decide +kernel, by decide +kernel⟩
theorem zJok_222 : zJok (yX12_liar, cX12_liar, 3, (some .int)) zT_222 := ⟨zmr7 (n := 53) rfl (by decide +kernel), zmq1 (n := 13) (by decide +kernel), by decide +kernel, by decide +kernel, rfl, by decide +kernel, zckF_ok (by decide +kernel), rfl, by decide +kernel, by decide +kernel⟩
theorem zJok_223 : zJok (yX12_seed, cX12_seed, 3, (some .int)) zT_223 := ⟨zmr7 (n := 57) rfl (by decide +kernel), zmq1 (n := 13) (by decide +kernel), by decide +kernel, by decide +kernel, rfl, by decide +kernel, zckF_ok (by decide +kernel), rfl, by decide +kernel, by decide +kernel⟩
theorem zJok_224 : zJok (yX12_draw, cX12_draw, 1, (some .int)) zT_224 := ⟨zmr7 (n := 61) rfl (by decide +kernel), zmq1 (n := 13) (by decide +kernel), by decide +kernel, by decide +kernel, rfl, by decide +kernel, zckF_ok (by decide +kernel), rfl, by decide +kernel, by decide +kernel⟩
theorem zJok_225 : zJok (yX12_often, cX12_often, 6, (some .int)) zT_225 := ⟨zmr7 (n := 66) rfl (by decide +kernel), zmq1 (n := 13) (by decide +kernel), by decide +kernel, by decide +kernel, rfl, by decide +kernel, zckF_ok (by decide +kernel), rfl, by decide +kernel, by decide +kernel⟩
theorem zJok_226 : zJok (yX12_prove, cX12_prove, 3, (some .int)) zT_226 := ⟨zmr7 (n := 72) rfl (by decide +kernel), zmq1 (n := 13) (by decide +kernel), by decide +kernel, by decide +kernel, rfl, by decide +kernel, zckF_ok (by decide +kernel), rfl, by decide +kernel, by decide +kernel⟩
theorem zJok_227 : zJok (yX12_isRow, cX12_isRow, 3, (some .boolean)) zT_227 := ⟨zmr7 (n := 80) rfl (by decide +kernel), zmq1 (n := 13) (by decide +kernel), by decide +kernel, by decide +kernel, rfl, by decide +kernel, zckF_ok (by decide +kernel), rfl, by decide +kernel, by decide +kernel⟩
theorem zJok_228 : zJok (yX12_row, cX12_row, 3, (some .int)) zT_228 := ⟨zmr7 (n := 76) rfl (by decide +kernel), zmq1 (n := 13) (by decide +kernel), by decide +kernel, by decide +kernel, rfl, by decide +kernel, zckF_ok (by decide +kernel), rfl, by decide +kernel, by decide +kernel⟩
theorem zJok_229 : zJok (yX12_alterRow, cX12_alterRow, 5, (some .int)) zT_229 := ⟨zmr7 (n := 84) rfl (by decide +kernel), zmq1 (n := 13) (by decide +kernel), by decide +kernel, by decide +kernel, rfl, by decide +kernel, zckF_ok (by decide +kernel), rfl, by decide +kernel, by decide +kernel⟩
theorem zJok_230 : zJok (yX12_judge, cX12_judge, 3, (some .int)) zT_230 := ⟨zmr7 (n := 88) rfl (by decide +kernel), zmq1 (n := 13) (by decide +kernel), by decide +kernel, by decide +kernel, rfl, by decide +kernel, zckF_ok (by decide +kernel), rfl, by decide +kernel, by decide +kernel⟩
theorem zJok_231 : zJok (yX12_feed, cX12_feed, 5, (some .int)) zT_231 := ⟨zmr7 (n := 92) rfl (by decide +kernel), zmq1 (n := 13) (by decide +kernel), by decide +kernel, by decide +kernel, rfl, by decide +kernel, zckF_ok (by decide +kernel), rfl, by decide +kernel, by decide +kernel⟩
theorem zJok_232 : zJok (yX12_byteAt, cX12_byteAt, 2, (some .int)) zT_232 := ⟨zmr7 (n := 106) rfl (by decide +kernel), zmq1 (n := 13) (by decide +kernel), by decide +kernel, by decide +kernel, rfl, by decide +kernel, zckF_ok (by decide +kernel), rfl, by decide +kernel, by decide +kernel⟩
theorem zJok_233 : zJok (yX12_isLetter, cX12_isLetter, 1, (some .boolean)) zT_233 := ⟨zmr7 (n := 109) rfl (by decide +kernel), zmq1 (n := 13) (by decide +kernel), by decide +kernel, by decide +kernel, rfl, by decide +kernel, zckF_ok (by decide +kernel), rfl, by decide +kernel, by decide +kernel⟩
theorem zJok_234 : zJok (yX12_isDigit, cX12_isDigit, 1, (some .boolean)) zT_234 := ⟨zmr7 (n := 114) rfl (by decide +kernel), zmq1 (n := 13) (by decide +kernel), by decide +kernel, by decide +kernel, rfl, by decide +kernel, zckF_ok (by decide +kernel), rfl, by decide +kernel, by decide +kernel⟩
theorem zJok_235 : zJok (yX12_token, cX12_token, 3, none) zT_235 := ⟨zmr7 (n := 102) rfl (by decide +kernel), zmq1 (n := 13) (by decide +kernel), by decide +kernel, by decide +kernel, rfl, by decide +kernel, zckF_ok (by decide +kernel), rfl, by decide +kernel, by decide +kernel⟩
theorem zJok_236 : zJok (yX12_needs, cX12_needs, 2, none) zT_236 := ⟨zmr7 (n := 140) rfl (by decide +kernel), zmq1 (n := 13) (by decide +kernel), by decide +kernel, by decide +kernel, rfl, by decide +kernel, zckF_ok (by decide +kernel), rfl, by decide +kernel, by decide +kernel⟩
theorem zJok_237 : zJok (yX12_word, cX12_word, 4, (some .long)) zT_237 := ⟨zmr7 (n := 128) rfl (by decide +kernel), zmq1 (n := 13) (by decide +kernel), by decide +kernel, by decide +kernel, rfl, by decide +kernel, zckF_ok (by decide +kernel), rfl, by decide +kernel, by decide +kernel⟩
theorem zJok_238 : zJok (yX12_number, cX12_number, 4, none) zT_238 := ⟨zmr7 (n := 179) rfl (by decide +kernel), zmq1 (n := 13) (by decide +kernel), by decide +kernel, by decide +kernel, rfl, by decide +kernel, zckF_ok (by decide +kernel), rfl, by decide +kernel, by decide +kernel⟩
theorem zJok_239 : zJok (yX12_kindHere, cX12_kindHere, 3, (some .int)) zT_239 := ⟨zmr7 (n := 124) rfl (by decide +kernel), zmq1 (n := 13) (by decide +kernel), by decide +kernel, by decide +kernel, rfl, by decide +kernel, zckF_ok (by decide +kernel), rfl, by decide +kernel, by decide +kernel⟩
theorem zJok_240 : zJok (yX12_factHere, cX12_factHere, 3, (some .int)) zT_240 := ⟨zmr7 (n := 166) rfl (by decide +kernel), zmq1 (n := 13) (by decide +kernel), by decide +kernel, by decide +kernel, rfl, by decide +kernel, zckF_ok (by decide +kernel), rfl, by decide +kernel, by decide +kernel⟩
theorem zJok_241 : zJok (yX12_writes, cX12_writes, 2, none) zT_241 := ⟨zmr7 (n := 175) rfl (by decide +kernel), zmq1 (n := 13) (by decide +kernel), by decide +kernel, by decide +kernel, rfl, by decide +kernel, zckF_ok (by decide +kernel), rfl, by decide +kernel, by decide +kernel⟩
theorem zJok_242 : zJok (yX12_valueHere, cX12_valueHere, 2, none) zT_242 := ⟨zmr7 (n := 162) rfl (by decide +kernel), zmq1 (n := 13) (by decide +kernel), by decide +kernel, by decide +kernel, rfl, by decide +kernel, zckF_ok (by decide +kernel), rfl, by decide +kernel, by decide +kernel⟩
theorem zJok_243 : zJok (yX12_comparison, cX12_comparison, 2, none) zT_243 := ⟨zmr7 (n := 158) rfl (by decide +kernel), zmq1 (n := 13) (by decide +kernel), by decide +kernel, by decide +kernel, rfl, by decide +kernel, zckF_ok (by decide +kernel), rfl, by decide +kernel, by decide +kernel⟩
theorem zJok_244 : zJok (yX12_one, cX12_one, 2, none) zT_244 := ⟨zmr7 (n := 153) rfl (by decide +kernel), zmq1 (n := 13) (by decide +kernel), by decide +kernel, by decide +kernel, rfl, by decide +kernel, zckF_ok (by decide +kernel), rfl, by decide +kernel, by decide +kernel⟩
theorem zJok_245 : zJok (yX12_all, cX12_all, 1, none) zT_245 := ⟨zmr7 (n := 149) rfl (by decide +kernel), zmq1 (n := 13) (by decide +kernel), by decide +kernel, by decide +kernel, rfl, by decide +kernel, zckF_ok (by decide +kernel), rfl, by decide +kernel, by decide +kernel⟩
theorem zJok_246 : zJok (yX12_condition, cX12_condition, 1, none) zT_246 := ⟨zmr7 (n := 145) rfl (by decide +kernel), zmq1 (n := 13) (by decide +kernel), by decide +kernel, by decide +kernel, rfl, by decide +kernel, zckF_ok (by decide +kernel), rfl, by decide +kernel, by decide +kernel⟩
theorem zJok_247 : zJok (yX12_rule, cX12_rule, 7, none) zT_247 := ⟨zmr7 (n := 120) rfl (by decide +kernel), zmq1 (n := 13) (by decide +kernel), by decide +kernel, by decide +kernel, rfl, by decide +kernel, zckF_ok (by decide +kernel), rfl, by decide +kernel, by decide +kernel⟩
theorem zJok_248 : zJok (yX12_rules, cX12_rules, 1, (some .int)) zT_248 := ⟨zmr7 (n := 98) rfl (by decide +kernel), zmq1 (n := 13) (by decide +kernel), by decide +kernel, by decide +kernel, rfl, by decide +kernel, zckF_ok (by decide +kernel), rfl, by decide +kernel, by decide +kernel⟩
theorem zJok_249 : zJok (yX12_isOne, cX12_isOne, 1, (some .boolean)) zT_249 := ⟨zmr7 (n := 191) rfl (by decide +kernel), zmq1 (n := 13) (by decide +kernel), by decide +kernel, by decide +kernel, rfl, by decide +kernel, zckF_ok (by decide +kernel), rfl, by decide +kernel, by decide +kernel⟩
theorem zJok_250 : zJok (yX12_sheet, cX12_sheet, 5, (some .int)) zT_250 := ⟨zmr7 (n := 188) rfl (by decide +kernel), zmq1 (n := 13) (by decide +kernel), by decide +kernel, by decide +kernel, rfl, by decide +kernel, zckF_ok (by decide +kernel), rfl, by decide +kernel, by decide +kernel⟩
theorem zJok_251 : zJok (yX12_narrowed, cX12_narrowed, 2, (some .int)) zT_251 := ⟨zmr7 (n := 199) rfl (by decide +kernel), zmq1 (n := 13) (by decide +kernel), by decide +kernel, by decide +kernel, rfl, by decide +kernel, zckF_ok (by decide +kernel), rfl, by decide +kernel, by decide +kernel⟩
theorem zJok_252 : zJok (yX12_write, cX12_write, 4, (some .int)) zT_252 := ⟨zmr7 (n := 196) rfl (by decide +kernel), zmq1 (n := 13) (by decide +kernel), by decide +kernel, by decide +kernel, rfl, by decide +kernel, zckF_ok (by decide +kernel), rfl, by decide +kernel, by decide +kernel⟩
theorem zJok_253 : zJok (yX12_wrong, cX12_wrong, 3, (some .int)) zT_253 := ⟨zmr7 (n := 207) rfl (by decide +kernel), zmq1 (n := 13) (by decide +kernel), by decide +kernel, by decide +kernel, rfl, by decide +kernel, zckF_ok (by decide +kernel), rfl, by decide +kernel, by decide +kernel⟩
theorem zJok_254 : zJok (yX12_item, cX12_item, 5, (some .int)) zT_254 := ⟨zmr7 (n := 203) rfl (by decide +kernel), zmq1 (n := 13) (by decide +kernel), by decide +kernel, by decide +kernel, rfl, by decide +kernel, zckF_ok (by decide +kernel), rfl, by decide +kernel, by decide +kernel⟩
theorem zJok_255 : zJok (yX12_climbs, cX12_climbs, 9, (some .int)) zT_255 := ⟨zmr7 (n := 211) rfl (by decide +kernel), zmq1 (n := 13) (by decide +kernel), by decide +kernel, by decide +kernel, rfl, by decide +kernel, zckF_ok (by decide +kernel), rfl, by decide +kernel, by decide +kernel⟩
theorem zJok_256 : zJok (yX12_shelf, cX12_shelf, 4, (some .int)) zT_256 := ⟨zmr7 (n := 217) rfl (by decide +kernel), zmq1 (n := 13) (by decide +kernel), by decide +kernel, by decide +kernel, rfl, by decide +kernel, zckF_ok (by decide +kernel), rfl, by decide +kernel, by decide +kernel⟩
theorem zJok_257 : zJok (yX12_onShelf, cX12_onShelf, 2, (some .int)) zT_257 := ⟨zmr7 (n := 227) rfl (by decide +kernel), zmq1 (n := 13) (by decide +kernel), by decide +kernel, by decide +kernel, rfl, by decide +kernel, zckF_ok (by decide +kernel), rfl, by decide +kernel, by decide +kernel⟩
theorem zJok_258 : zJok (yX12_taken, cX12_taken, 5, (some .int)) zT_258 := ⟨zmr7 (n := 221) rfl (by decide +kernel), zmq1 (n := 13) (by decide +kernel), by decide +kernel, by decide +kernel, rfl, by decide +kernel, zckF_ok (by decide +kernel), rfl, by decide +kernel, by decide +kernel⟩
theorem zJok_259 : zJok (yX12_runs, cX12_runs, 2, none) zT_259 := ⟨zmr7 (n := 239) rfl (by decide +kernel), zmq1 (n := 13) (by decide +kernel), by decide +kernel, by decide +kernel, rfl, by decide +kernel, zckF_ok (by decide +kernel), rfl, by decide +kernel, by decide +kernel⟩
theorem zJok_260 : zJok (yX12_sways, cX12_sways, 2, (some .int)) zT_260 := ⟨zmr7 (n := 235) rfl (by decide +kernel), zmq1 (n := 13) (by decide +kernel), by decide +kernel, by decide +kernel, rfl, by decide +kernel, zckF_ok (by decide +kernel), rfl, by decide +kernel, by decide +kernel⟩
theorem zJok_261 : zJok (yX12_bends, cX12_bends, 4, (some .int)) zT_261 := ⟨zmr8 (n := 3) rfl (by decide +kernel), zmq1 (n := 13) (by decide +kernel), by decide +kernel, by decide +kernel, rfl, by decide +kernel, zckF_ok (by decide +kernel), rfl, by decide +kernel, by decide +kernel⟩
theorem zJok_262 : zJok (yX12_parts, cX12_parts, 2, (some .int)) zT_262 := ⟨zmr8 (n := 11) rfl (by decide +kernel), zmq1 (n := 13) (by decide +kernel), by decide +kernel, by decide +kernel, rfl, by decide +kernel, zckF_ok (by decide +kernel), rfl, by decide +kernel, by decide +kernel⟩
theorem zJok_263 : zJok (yX12_shares, cX12_shares, 3, (some .int)) zT_263 := ⟨zmr8 (n := 7) rfl (by decide +kernel), zmq1 (n := 13) (by decide +kernel), by decide +kernel, by decide +kernel, rfl, by decide +kernel, zckF_ok (by decide +kernel), rfl, by decide +kernel, by decide +kernel⟩
theorem zJok_264 : zJok (yX12_tells, cX12_tells, 3, (some .int)) zT_264 := ⟨zmr8 (n := 15) rfl (by decide +kernel), zmq1 (n := 13) (by decide +kernel), by decide +kernel, by decide +kernel, rfl, by decide +kernel, zckF_ok (by decide +kernel), rfl, by decide +kernel, by decide +kernel⟩
theorem zJok_265 : zJok (yX12_act, cX12_act, 5, (some .int)) zT_265 := ⟨zmr7 (n := 231) rfl (by decide +kernel), zmq1 (n := 13) (by decide +kernel), by decide +kernel, by decide +kernel, rfl, by decide +kernel, zckF_ok (by decide +kernel), rfl, by decide +kernel, by decide +kernel⟩
theorem zJok_266 : zJok (yX12_traced, cX12_traced, 1, (some .int)) zT_266 := ⟨zmr8 (n := 23) rfl (by decide +kernel), zmq1 (n := 13) (by decide +kernel), by decide +kernel, by decide +kernel, rfl, by decide +kernel, zckF_ok (by decide +kernel), rfl, by decide +kernel, by decide +kernel⟩
theorem zJok_267 : zJok (yX12_trace, cX12_trace, 2, (some .int)) zT_267 := ⟨zmr8 (n := 19) rfl (by decide +kernel), zmq1 (n := 13) (by decide +kernel), by decide +kernel, by decide +kernel, rfl, by decide +kernel, zckF_ok (by decide +kernel), rfl, by decide +kernel, by decide +kernel⟩
theorem zJok_268 : zJok (yX12_many, cX12_many, 2, (some .int)) zT_268 := ⟨zmr8 (n := 27) rfl (by decide +kernel), zmq1 (n := 13) (by decide +kernel), by decide +kernel, by decide +kernel, rfl, by decide +kernel, zckF_ok (by decide +kernel), rfl, by decide +kernel, by decide +kernel⟩
theorem zJok_269 : zJok (yX12_keep, cX12_keep, 2, (some .int)) zT_269 := ⟨zmr8 (n := 31) rfl (by decide +kernel), zmq1 (n := 13) (by decide +kernel), by decide +kernel, by decide +kernel, rfl, by decide +kernel, zckF_ok (by decide +kernel), rfl, by decide +kernel, by decide +kernel⟩
theorem zJok_270 : zJok (yX12_again, cX12_again, 2, (some .int)) zT_270 := ⟨zmr8 (n := 35) rfl (by decide +kernel), zmq1 (n := 13) (by decide +kernel), by decide +kernel, by decide +kernel, rfl, by decide +kernel, zckF_ok (by decide +kernel), rfl, by decide +kernel, by decide +kernel⟩
theorem zJok_271 : zJok (yJ6_bitCount_0f7a4, cJ6_bitCount_0f7a4, 1, (some .int)) zT_271 := ⟨zmr4 (n := 90) rfl (by decide +kernel), zmq1 (n := 20) (by decide +kernel), by decide +kernel, by decide +kernel, rfl, by decide +kernel, zckF_ok (by decide +kernel), rfl, by decide +kernel, by decide +kernel⟩
theorem zJok_274 : zJok (yJ0_length_8abf5, cJ0_length_8abf5, 1, (some .int)) zT_274 := ⟨zmr3 (n := 38) rfl (by decide +kernel), zmq1 (n := 15) (by decide +kernel), by decide +kernel, by decide +kernel, rfl, by decide +kernel, zckF_ok (by decide +kernel), rfl, by decide +kernel, by decide +kernel⟩
theorem zJok_275 : zJok (yJ0_charAt_5068e, cJ0_charAt_5068e, 2, (some .char)) zT_275 := ⟨zmr3 (n := 48) rfl (by decide +kernel), zmq1 (n := 15) (by decide +kernel), by decide +kernel, by decide +kernel, rfl, by decide +kernel, zckF_ok (by decide +kernel), rfl, by decide +kernel, by decide +kernel⟩
theorem zJok_276 : zJok (yJ0_coder_7d493, cJ0_coder_7d493, 1, (some .byte)) zT_276 := ⟨zmr3 (n := 42) rfl (by decide +kernel), zmq1 (n := 15) (by decide +kernel), by decide +kernel, by decide +kernel, rfl, by decide +kernel, zckF_ok (by decide +kernel), rfl, by decide +kernel, by decide +kernel⟩
theorem zJok_277 : zJok (yJ0_isLatin1_aae02, cJ0_isLatin1_aae02, 1, (some .boolean)) zT_277 := ⟨zmr3 (n := 52) rfl (by decide +kernel), zmq1 (n := 15) (by decide +kernel), by decide +kernel, by decide +kernel, rfl, by decide +kernel, zckF_ok (by decide +kernel), rfl, by decide +kernel, by decide +kernel⟩
theorem zJok_278 : zJok (yJ0_checkIndex_df160, cJ0_checkIndex_df160, 2, none) zT_278 := ⟨zmr3 (n := 58) rfl (by decide +kernel), zmq1 (n := 15) (by decide +kernel), by decide +kernel, by decide +kernel, rfl, by decide +kernel, zckF_ok (by decide +kernel), rfl, by decide +kernel, by decide +kernel⟩
theorem zJok_279 : zJok (yJ1_charAt_3b067, cJ1_charAt_3b067, 2, (some .char)) zT_279 := ⟨zmr3 (n := 55) rfl (by decide +kernel), zmq1 (n := 16) (by decide +kernel), by decide +kernel, by decide +kernel, rfl, by decide +kernel, zckF_ok (by decide +kernel), rfl, by decide +kernel, by decide +kernel⟩
theorem zJok_280 : zJok (yJ3_checkIndex_8e157, cJ3_checkIndex_8e157, 3, (some .int)) zT_280 := ⟨zmr3 (n := 63) rfl (by decide +kernel), zmq1 (n := 17) (by decide +kernel), by decide +kernel, by decide +kernel, rfl, by decide +kernel, zckF_ok (by decide +kernel), rfl, by decide +kernel, by decide +kernel⟩
theorem zJall_0 : ∀ j q T, zME[j]? = some q → zTL[j]? = some T → 0 ≤ j → j < 40 → zbi j = none → zJok q T := by
  intro j q T h1 h2 h3 h4 h5
  obtain ⟨k, rfl⟩ : ∃ k, j = 0 + k := ⟨j - 0, by omega⟩
  have hk : k < 40 := by omega
  match k, hk, h1, h2, h5 with
  | 0, _, h1, h2, _ => cases h1; cases h2; exact zJok_0
  | 1, _, h1, h2, _ => cases h1; cases h2; exact zJok_1
  | 2, _, h1, h2, _ => cases h1; cases h2; exact zJok_2
  | 3, _, h1, h2, _ => cases h1; cases h2; exact zJok_3
  | 4, _, h1, h2, _ => cases h1; cases h2; exact zJok_4
  | 5, _, h1, h2, _ => cases h1; cases h2; exact zJok_5
  | 6, _, h1, h2, _ => cases h1; cases h2; exact zJok_6
  | 7, _, h1, h2, _ => cases h1; cases h2; exact zJok_7
  | 8, _, h1, h2, _ => cases h1; cases h2; exact zJok_8
  | 9, _, h1, h2, _ => cases h1; cases h2; exact zJok_9
  | 10, _, h1, h2, _ => cases h1; cases h2; exact zJok_10
  | 11, _, h1, h2, _ => cases h1; cases h2; exact zJok_11
  | 12, _, h1, h2, _ => cases h1; cases h2; exact zJok_12
  | 13, _, h1, h2, _ => cases h1; cases h2; exact zJok_13
  | 14, _, h1, h2, _ => cases h1; cases h2; exact zJok_14
  | 15, _, h1, h2, _ => cases h1; cases h2; exact zJok_15
  | 16, _, h1, h2, _ => cases h1; cases h2; exact zJok_16
  | 17, _, h1, h2, _ => cases h1; cases h2; exact zJok_17
  | 18, _, h1, h2, _ => cases h1; cases h2; exact zJok_18
  | 19, _, h1, h2, _ => cases h1; cases h2; exact zJok_19
  | 20, _, h1, h2, _ => cases h1; cases h2; exact zJok_20
  | 21, _, h1, h2, _ => cases h1; cases h2; exact zJok_21
  | 22, _, h1, h2, _ => cases h1; cases h2; exact zJok_22
  | 23, _, h1, h2, _ => cases h1; cases h2; exact zJok_23
  | 24, _, h1, h2, _ => cases h1; cases h2; exact zJok_24
  | 25, _, h1, h2, _ => cases h1; cases h2; exact zJok_25
  | 26, _, h1, h2, _ => cases h1; cases h2; exact zJok_26
  | 27, _, h1, h2, _ => cases h1; cases h2; exact zJok_27
  | 28, _, h1, h2, _ => cases h1; cases h2; exact zJok_28
  | 29, _, h1, h2, _ => cases h1; cases h2; exact zJok_29
  | 30, _, h1, h2, _ => cases h1; cases h2; exact zJok_30
  | 31, _, h1, h2, _ => cases h1; cases h2; exact zJok_31
  | 32, _, h1, h2, _ => cases h1; cases h2; exact zJok_32
  | 33, _, h1, h2, _ => cases h1; cases h2; exact zJok_33
  | 34, _, h1, h2, _ => cases h1; cases h2; exact zJok_34
  | 35, _, h1, h2, _ => cases h1; cases h2; exact zJok_35
  | 36, _, h1, h2, _ => cases h1; cases h2; exact zJok_36
  | 37, _, h1, h2, _ => cases h1; cases h2; exact zJok_37
  | 38, _, h1, h2, _ => cases h1; cases h2; exact zJok_38
  | 39, _, h1, h2, _ => cases h1; cases h2; exact zJok_39
  | k + 40, hk, _, _, _ => exact absurd hk (by omega)
theorem zJall_1 : ∀ j q T, zME[j]? = some q → zTL[j]? = some T → 40 ≤ j → j < 80 → zbi j = none → zJok q T := by
  intro j q T h1 h2 h3 h4 h5
  obtain ⟨k, rfl⟩ : ∃ k, j = 40 + k := ⟨j - 40, by omega⟩
  have hk : k < 40 := by omega
  match k, hk, h1, h2, h5 with
  | 0, _, h1, h2, _ => cases h1; cases h2; exact zJok_40
  | 1, _, h1, h2, _ => cases h1; cases h2; exact zJok_41
  | 2, _, h1, h2, _ => cases h1; cases h2; exact zJok_42
  | 3, _, h1, h2, _ => cases h1; cases h2; exact zJok_43
  | 4, _, h1, h2, _ => cases h1; cases h2; exact zJok_44
  | 5, _, h1, h2, _ => cases h1; cases h2; exact zJok_45
  | 6, _, h1, h2, _ => cases h1; cases h2; exact zJok_46
  | 7, _, h1, h2, _ => cases h1; cases h2; exact zJok_47
  | 8, _, h1, h2, _ => cases h1; cases h2; exact zJok_48
  | 9, _, h1, h2, _ => cases h1; cases h2; exact zJok_49
  | 10, _, h1, h2, _ => cases h1; cases h2; exact zJok_50
  | 11, _, h1, h2, _ => cases h1; cases h2; exact zJok_51
  | 12, _, h1, h2, _ => cases h1; cases h2; exact zJok_52
  | 13, _, h1, h2, _ => cases h1; cases h2; exact zJok_53
  | 14, _, h1, h2, _ => cases h1; cases h2; exact zJok_54
  | 15, _, h1, h2, _ => cases h1; cases h2; exact zJok_55
  | 16, _, h1, h2, _ => cases h1; cases h2; exact zJok_56
  | 17, _, h1, h2, _ => cases h1; cases h2; exact zJok_57
  | 18, _, h1, h2, _ => cases h1; cases h2; exact zJok_58
  | 19, _, h1, h2, _ => cases h1; cases h2; exact zJok_59
  | 20, _, h1, h2, _ => cases h1; cases h2; exact zJok_60
  | 21, _, h1, h2, _ => cases h1; cases h2; exact zJok_61
  | 22, _, h1, h2, _ => cases h1; cases h2; exact zJok_62
  | 23, _, h1, h2, _ => cases h1; cases h2; exact zJok_63
  | 24, _, h1, h2, _ => cases h1; cases h2; exact zJok_64
  | 25, _, h1, h2, _ => cases h1; cases h2; exact zJok_65
  | 26, _, h1, h2, _ => cases h1; cases h2; exact zJok_66
  | 27, _, h1, h2, _ => cases h1; cases h2; exact zJok_67
  | 28, _, h1, h2, _ => cases h1; cases h2; exact zJok_68
  | 29, _, h1, h2, _ => cases h1; cases h2; exact zJok_69
  | 30, _, h1, h2, _ => cases h1; cases h2; exact zJok_70
  | 31, _, h1, h2, _ => cases h1; cases h2; exact zJok_71
  | 32, _, h1, h2, _ => cases h1; cases h2; exact zJok_72
  | 33, _, h1, h2, _ => cases h1; cases h2; exact zJok_73
  | 34, _, h1, h2, _ => cases h1; cases h2; exact zJok_74
  | 35, _, h1, h2, _ => cases h1; cases h2; exact zJok_75
  | 36, _, h1, h2, _ => cases h1; cases h2; exact zJok_76
  | 37, _, h1, h2, _ => cases h1; cases h2; exact zJok_77
  | 38, _, h1, h2, _ => cases h1; cases h2; exact zJok_78
  | 39, _, h1, h2, _ => cases h1; cases h2; exact zJok_79
  | k + 40, hk, _, _, _ => exact absurd hk (by omega)
theorem zJall_2 : ∀ j q T, zME[j]? = some q → zTL[j]? = some T → 80 ≤ j → j < 120 → zbi j = none → zJok q T := by
  intro j q T h1 h2 h3 h4 h5
  obtain ⟨k, rfl⟩ : ∃ k, j = 80 + k := ⟨j - 80, by omega⟩
  have hk : k < 40 := by omega
  match k, hk, h1, h2, h5 with
  | 0, _, h1, h2, _ => cases h1; cases h2; exact zJok_80
  | 1, _, h1, h2, _ => cases h1; cases h2; exact zJok_81
  | 2, _, h1, h2, _ => cases h1; cases h2; exact zJok_82
  | 3, _, h1, h2, _ => cases h1; cases h2; exact zJok_83
  | 4, _, h1, h2, _ => cases h1; cases h2; exact zJok_84
  | 5, _, h1, h2, _ => cases h1; cases h2; exact zJok_85
  | 6, _, h1, h2, _ => cases h1; cases h2; exact zJok_86
  | 7, _, h1, h2, _ => cases h1; cases h2; exact zJok_87
  | 8, _, h1, h2, _ => cases h1; cases h2; exact zJok_88
  | 9, _, h1, h2, _ => cases h1; cases h2; exact zJok_89
  | 10, _, h1, h2, _ => cases h1; cases h2; exact zJok_90
  | 11, _, h1, h2, _ => cases h1; cases h2; exact zJok_91
  | 12, _, h1, h2, _ => cases h1; cases h2; exact zJok_92
  | 13, _, h1, h2, _ => cases h1; cases h2; exact zJok_93
  | 14, _, h1, h2, _ => cases h1; cases h2; exact zJok_94
  | 15, _, h1, h2, _ => cases h1; cases h2; exact zJok_95
  | 16, _, h1, h2, _ => cases h1; cases h2; exact zJok_96
  | 17, _, h1, h2, _ => cases h1; cases h2; exact zJok_97
  | 18, _, h1, h2, _ => cases h1; cases h2; exact zJok_98
  | 19, _, h1, h2, _ => cases h1; cases h2; exact zJok_99
  | 20, _, h1, h2, _ => cases h1; cases h2; exact zJok_100
  | 21, _, h1, h2, _ => cases h1; cases h2; exact zJok_101
  | 22, _, h1, h2, _ => cases h1; cases h2; exact zJok_102
  | 23, _, h1, h2, _ => cases h1; cases h2; exact zJok_103
  | 24, _, h1, h2, _ => cases h1; cases h2; exact zJok_104
  | 25, _, h1, h2, _ => cases h1; cases h2; exact zJok_105
  | 26, _, h1, h2, _ => cases h1; cases h2; exact zJok_106
  | 27, _, h1, h2, _ => cases h1; cases h2; exact zJok_107
  | 28, _, h1, h2, _ => cases h1; cases h2; exact zJok_108
  | 29, _, h1, h2, _ => cases h1; cases h2; exact zJok_109
  | 30, _, h1, h2, _ => cases h1; cases h2; exact zJok_110
  | 31, _, h1, h2, _ => cases h1; cases h2; exact zJok_111
  | 32, _, h1, h2, _ => cases h1; cases h2; exact zJok_112
  | 33, _, h1, h2, _ => cases h1; cases h2; exact zJok_113
  | 34, _, h1, h2, _ => cases h1; cases h2; exact zJok_114
  | 35, _, h1, h2, _ => cases h1; cases h2; exact zJok_115
  | 36, _, h1, h2, _ => cases h1; cases h2; exact zJok_116
  | 37, _, h1, h2, _ => cases h1; cases h2; exact zJok_117
  | 38, _, h1, h2, _ => cases h1; cases h2; exact zJok_118
  | 39, _, h1, h2, _ => cases h1; cases h2; exact zJok_119
  | k + 40, hk, _, _, _ => exact absurd hk (by omega)
theorem zJall_3 : ∀ j q T, zME[j]? = some q → zTL[j]? = some T → 120 ≤ j → j < 160 → zbi j = none → zJok q T := by
  intro j q T h1 h2 h3 h4 h5
  obtain ⟨k, rfl⟩ : ∃ k, j = 120 + k := ⟨j - 120, by omega⟩
  have hk : k < 40 := by omega
  match k, hk, h1, h2, h5 with
  | 0, _, h1, h2, _ => cases h1; cases h2; exact zJok_120
  | 1, _, h1, h2, _ => cases h1; cases h2; exact zJok_121
  | 2, _, h1, h2, _ => cases h1; cases h2; exact zJok_122
  | 3, _, h1, h2, _ => cases h1; cases h2; exact zJok_123
  | 4, _, h1, h2, _ => cases h1; cases h2; exact zJok_124
  | 5, _, h1, h2, _ => cases h1; cases h2; exact zJok_125
  | 6, _, h1, h2, _ => cases h1; cases h2; exact zJok_126
  | 7, _, h1, h2, _ => cases h1; cases h2; exact zJok_127
  | 8, _, h1, h2, _ => cases h1; cases h2; exact zJok_128
  | 9, _, h1, h2, _ => cases h1; cases h2; exact zJok_129
  | 10, _, h1, h2, _ => cases h1; cases h2; exact zJok_130
  | 11, _, h1, h2, _ => cases h1; cases h2; exact zJok_131
  | 12, _, h1, h2, _ => cases h1; cases h2; exact zJok_132
  | 13, _, h1, h2, _ => cases h1; cases h2; exact zJok_133
  | 14, _, h1, h2, _ => cases h1; cases h2; exact zJok_134
  | 15, _, h1, h2, _ => cases h1; cases h2; exact zJok_135
  | 16, _, h1, h2, _ => cases h1; cases h2; exact zJok_136
  | 17, _, h1, h2, _ => cases h1; cases h2; exact zJok_137
  | 18, _, h1, h2, _ => cases h1; cases h2; exact zJok_138
  | 19, _, h1, h2, _ => cases h1; cases h2; exact zJok_139
  | 20, _, h1, h2, _ => cases h1; cases h2; exact zJok_140
  | 21, _, h1, h2, _ => cases h1; cases h2; exact zJok_141
  | 22, _, h1, h2, _ => cases h1; cases h2; exact zJok_142
  | 23, _, h1, h2, _ => cases h1; cases h2; exact zJok_143
  | 24, _, h1, h2, _ => cases h1; cases h2; exact zJok_144
  | 25, _, h1, h2, _ => cases h1; cases h2; exact zJok_145
  | 26, _, h1, h2, _ => cases h1; cases h2; exact zJok_146
  | 27, _, h1, h2, _ => cases h1; cases h2; exact zJok_147
  | 28, _, h1, h2, _ => cases h1; cases h2; exact zJok_148
  | 29, _, h1, h2, _ => cases h1; cases h2; exact zJok_149
  | 30, _, h1, h2, _ => cases h1; cases h2; exact zJok_150
  | 31, _, h1, h2, _ => cases h1; cases h2; exact zJok_151
  | 32, _, h1, h2, _ => cases h1; cases h2; exact zJok_152
  | 33, _, h1, h2, _ => cases h1; cases h2; exact zJok_153
  | 34, _, h1, h2, _ => cases h1; cases h2; exact zJok_154
  | 35, _, h1, h2, _ => cases h1; cases h2; exact zJok_155
  | 36, _, h1, h2, _ => cases h1; cases h2; exact zJok_156
  | 37, _, h1, h2, _ => cases h1; cases h2; exact zJok_157
  | 38, _, h1, h2, _ => cases h1; cases h2; exact zJok_158
  | 39, _, h1, h2, _ => cases h1; cases h2; exact zJok_159
  | k + 40, hk, _, _, _ => exact absurd hk (by omega)
theorem zJall_4 : ∀ j q T, zME[j]? = some q → zTL[j]? = some T → 160 ≤ j → j < 200 → zbi j = none → zJok q T := by
  intro j q T h1 h2 h3 h4 h5
  obtain ⟨k, rfl⟩ : ∃ k, j = 160 + k := ⟨j - 160, by omega⟩
  have hk : k < 40 := by omega
  match k, hk, h1, h2, h5 with
  | 0, _, h1, h2, _ => cases h1; cases h2; exact zJok_160
  | 1, _, h1, h2, _ => cases h1; cases h2; exact zJok_161
  | 2, _, h1, h2, _ => cases h1; cases h2; exact zJok_162
  | 3, _, h1, h2, _ => cases h1; cases h2; exact zJok_163
  | 4, _, h1, h2, _ => cases h1; cases h2; exact zJok_164
  | 5, _, h1, h2, _ => cases h1; cases h2; exact zJok_165
  | 6, _, h1, h2, _ => cases h1; cases h2; exact zJok_166
  | 7, _, h1, h2, _ => cases h1; cases h2; exact zJok_167
  | 8, _, h1, h2, _ => cases h1; cases h2; exact zJok_168
  | 9, _, h1, h2, _ => cases h1; cases h2; exact zJok_169
  | 10, _, h1, h2, _ => cases h1; cases h2; exact zJok_170
  | 11, _, h1, h2, _ => cases h1; cases h2; exact zJok_171
  | 12, _, h1, h2, _ => cases h1; cases h2; exact zJok_172
  | 13, _, h1, h2, _ => cases h1; cases h2; exact zJok_173
  | 14, _, h1, h2, _ => cases h1; cases h2; exact zJok_174
  | 15, _, h1, h2, _ => cases h1; cases h2; exact zJok_175
  | 16, _, h1, h2, _ => cases h1; cases h2; exact zJok_176
  | 17, _, h1, h2, _ => cases h1; cases h2; exact zJok_177
  | 18, _, h1, h2, _ => cases h1; cases h2; exact zJok_178
  | 19, _, h1, h2, _ => cases h1; cases h2; exact zJok_179
  | 20, _, h1, h2, _ => cases h1; cases h2; exact zJok_180
  | 21, _, h1, h2, _ => cases h1; cases h2; exact zJok_181
  | 22, _, h1, h2, _ => cases h1; cases h2; exact zJok_182
  | 23, _, h1, h2, _ => cases h1; cases h2; exact zJok_183
  | 24, _, h1, h2, _ => cases h1; cases h2; exact zJok_184
  | 25, _, h1, h2, _ => cases h1; cases h2; exact zJok_185
  | 26, _, h1, h2, _ => cases h1; cases h2; exact zJok_186
  | 27, _, h1, h2, _ => cases h1; cases h2; exact zJok_187
  | 28, _, h1, h2, _ => cases h1; cases h2; exact zJok_188
  | 29, _, h1, h2, _ => cases h1; cases h2; exact zJok_189
  | 30, _, h1, h2, _ => cases h1; cases h2; exact zJok_190
  | 31, _, h1, h2, _ => cases h1; cases h2; exact zJok_191
  | 32, _, h1, h2, _ => cases h1; cases h2; exact zJok_192
  | 33, _, h1, h2, _ => cases h1; cases h2; exact zJok_193
  | 34, _, h1, h2, _ => cases h1; cases h2; exact zJok_194
  | 35, _, h1, h2, _ => cases h1; cases h2; exact zJok_195
  | 36, _, h1, h2, _ => cases h1; cases h2; exact zJok_196
  | 37, _, h1, h2, _ => cases h1; cases h2; exact zJok_197
  | 38, _, h1, h2, _ => cases h1; cases h2; exact zJok_198
  | 39, _, h1, h2, _ => cases h1; cases h2; exact zJok_199
  | k + 40, hk, _, _, _ => exact absurd hk (by omega)
theorem zJall_5 : ∀ j q T, zME[j]? = some q → zTL[j]? = some T → 200 ≤ j → j < 240 → zbi j = none → zJok q T := by
  intro j q T h1 h2 h3 h4 h5
  obtain ⟨k, rfl⟩ : ∃ k, j = 200 + k := ⟨j - 200, by omega⟩
  have hk : k < 40 := by omega
  match k, hk, h1, h2, h5 with
  | 0, _, h1, h2, _ => cases h1; cases h2; exact zJok_200
  | 1, _, h1, h2, _ => cases h1; cases h2; exact zJok_201
  | 2, _, h1, h2, _ => cases h1; cases h2; exact zJok_202
  | 3, _, h1, h2, _ => cases h1; cases h2; exact zJok_203
  | 4, _, h1, h2, _ => cases h1; cases h2; exact zJok_204
  | 5, _, h1, h2, _ => cases h1; cases h2; exact zJok_205
  | 6, _, h1, h2, _ => cases h1; cases h2; exact zJok_206
  | 7, _, h1, h2, _ => cases h1; cases h2; exact zJok_207
  | 8, _, h1, h2, _ => cases h1; cases h2; exact zJok_208
  | 9, _, h1, h2, _ => cases h1; cases h2; exact zJok_209
  | 10, _, h1, h2, _ => cases h1; cases h2; exact zJok_210
  | 11, _, h1, h2, _ => cases h1; cases h2; exact zJok_211
  | 12, _, h1, h2, _ => cases h1; cases h2; exact zJok_212
  | 13, _, h1, h2, _ => cases h1; cases h2; exact zJok_213
  | 14, _, h1, h2, _ => cases h1; cases h2; exact zJok_214
  | 15, _, h1, h2, _ => cases h1; cases h2; exact zJok_215
  | 16, _, h1, h2, _ => cases h1; cases h2; exact zJok_216
  | 17, _, h1, h2, _ => cases h1; cases h2; exact zJok_217
  | 18, _, h1, h2, _ => cases h1; cases h2; exact zJok_218
  | 19, _, h1, h2, _ => cases h1; cases h2; exact zJok_219
  | 20, _, h1, h2, _ => cases h1; cases h2; exact zJok_220
  | 21, _, h1, h2, _ => cases h1; cases h2; exact zJok_221
  | 22, _, h1, h2, _ => cases h1; cases h2; exact zJok_222
  | 23, _, h1, h2, _ => cases h1; cases h2; exact zJok_223
  | 24, _, h1, h2, _ => cases h1; cases h2; exact zJok_224
  | 25, _, h1, h2, _ => cases h1; cases h2; exact zJok_225
  | 26, _, h1, h2, _ => cases h1; cases h2; exact zJok_226
  | 27, _, h1, h2, _ => cases h1; cases h2; exact zJok_227
  | 28, _, h1, h2, _ => cases h1; cases h2; exact zJok_228
  | 29, _, h1, h2, _ => cases h1; cases h2; exact zJok_229
  | 30, _, h1, h2, _ => cases h1; cases h2; exact zJok_230
  | 31, _, h1, h2, _ => cases h1; cases h2; exact zJok_231
  | 32, _, h1, h2, _ => cases h1; cases h2; exact zJok_232
  | 33, _, h1, h2, _ => cases h1; cases h2; exact zJok_233
  | 34, _, h1, h2, _ => cases h1; cases h2; exact zJok_234
  | 35, _, h1, h2, _ => cases h1; cases h2; exact zJok_235
  | 36, _, h1, h2, _ => cases h1; cases h2; exact zJok_236
  | 37, _, h1, h2, _ => cases h1; cases h2; exact zJok_237
  | 38, _, h1, h2, _ => cases h1; cases h2; exact zJok_238
  | 39, _, h1, h2, _ => cases h1; cases h2; exact zJok_239
  | k + 40, hk, _, _, _ => exact absurd hk (by omega)
theorem zJall_6 : ∀ j q T, zME[j]? = some q → zTL[j]? = some T → 240 ≤ j → j < 280 → zbi j = none → zJok q T := by
  intro j q T h1 h2 h3 h4 h5
  obtain ⟨k, rfl⟩ : ∃ k, j = 240 + k := ⟨j - 240, by omega⟩
  have hk : k < 40 := by omega
  match k, hk, h1, h2, h5 with
  | 0, _, h1, h2, _ => cases h1; cases h2; exact zJok_240
  | 1, _, h1, h2, _ => cases h1; cases h2; exact zJok_241
  | 2, _, h1, h2, _ => cases h1; cases h2; exact zJok_242
  | 3, _, h1, h2, _ => cases h1; cases h2; exact zJok_243
  | 4, _, h1, h2, _ => cases h1; cases h2; exact zJok_244
  | 5, _, h1, h2, _ => cases h1; cases h2; exact zJok_245
  | 6, _, h1, h2, _ => cases h1; cases h2; exact zJok_246
  | 7, _, h1, h2, _ => cases h1; cases h2; exact zJok_247
  | 8, _, h1, h2, _ => cases h1; cases h2; exact zJok_248
  | 9, _, h1, h2, _ => cases h1; cases h2; exact zJok_249
  | 10, _, h1, h2, _ => cases h1; cases h2; exact zJok_250
  | 11, _, h1, h2, _ => cases h1; cases h2; exact zJok_251
  | 12, _, h1, h2, _ => cases h1; cases h2; exact zJok_252
  | 13, _, h1, h2, _ => cases h1; cases h2; exact zJok_253
  | 14, _, h1, h2, _ => cases h1; cases h2; exact zJok_254
  | 15, _, h1, h2, _ => cases h1; cases h2; exact zJok_255
  | 16, _, h1, h2, _ => cases h1; cases h2; exact zJok_256
  | 17, _, h1, h2, _ => cases h1; cases h2; exact zJok_257
  | 18, _, h1, h2, _ => cases h1; cases h2; exact zJok_258
  | 19, _, h1, h2, _ => cases h1; cases h2; exact zJok_259
  | 20, _, h1, h2, _ => cases h1; cases h2; exact zJok_260
  | 21, _, h1, h2, _ => cases h1; cases h2; exact zJok_261
  | 22, _, h1, h2, _ => cases h1; cases h2; exact zJok_262
  | 23, _, h1, h2, _ => cases h1; cases h2; exact zJok_263
  | 24, _, h1, h2, _ => cases h1; cases h2; exact zJok_264
  | 25, _, h1, h2, _ => cases h1; cases h2; exact zJok_265
  | 26, _, h1, h2, _ => cases h1; cases h2; exact zJok_266
  | 27, _, h1, h2, _ => cases h1; cases h2; exact zJok_267
  | 28, _, h1, h2, _ => cases h1; cases h2; exact zJok_268
  | 29, _, h1, h2, _ => cases h1; cases h2; exact zJok_269
  | 30, _, h1, h2, _ => cases h1; cases h2; exact zJok_270
  | 31, _, h1, h2, _ => cases h1; cases h2; exact zJok_271
  | 32, _, _, _, h5 => exact absurd h5 (by decide +kernel)
  | 33, _, _, _, h5 => exact absurd h5 (by decide +kernel)
  | 34, _, h1, h2, _ => cases h1; cases h2; exact zJok_274
  | 35, _, h1, h2, _ => cases h1; cases h2; exact zJok_275
  | 36, _, h1, h2, _ => cases h1; cases h2; exact zJok_276
  | 37, _, h1, h2, _ => cases h1; cases h2; exact zJok_277
  | 38, _, h1, h2, _ => cases h1; cases h2; exact zJok_278
  | 39, _, h1, h2, _ => cases h1; cases h2; exact zJok_279
  | k + 40, hk, _, _, _ => exact absurd hk (by omega)
theorem zJall_7 : ∀ j q T, zME[j]? = some q → zTL[j]? = some T → 280 ≤ j → j < 281 → zbi j = none → zJok q T := by
  intro j q T h1 h2 h3 h4 h5
  obtain ⟨k, rfl⟩ : ∃ k, j = 280 + k := ⟨j - 280, by omega⟩
  have hk : k < 1 := by omega
  match k, hk, h1, h2, h5 with
  | 0, _, h1, h2, _ => cases h1; cases h2; exact zJok_280
  | k + 1, hk, _, _, _ => exact absurd hk (by omega)
theorem zJall : ∀ j q T, zME[j]? = some q → zTL[j]? = some T → j < 281 → zbi j = none → zJok q T := by
  intro j q T h1 h2 h3 hz
  rcases Nat.lt_or_ge j 40 with h | g0
  · exact zJall_0 j q T h1 h2 (by omega) h hz
  rcases Nat.lt_or_ge j 80 with h | g1
  · exact zJall_1 j q T h1 h2 (by omega) h hz
  rcases Nat.lt_or_ge j 120 with h | g2
  · exact zJall_2 j q T h1 h2 (by omega) h hz
  rcases Nat.lt_or_ge j 160 with h | g3
  · exact zJall_3 j q T h1 h2 (by omega) h hz
  rcases Nat.lt_or_ge j 200 with h | g4
  · exact zJall_4 j q T h1 h2 (by omega) h hz
  rcases Nat.lt_or_ge j 240 with h | g5
  · exact zJall_5 j q T h1 h2 (by omega) h hz
  rcases Nat.lt_or_ge j 280 with h | g6
  · exact zJall_6 j q T h1 h2 (by omega) h hz
  rcases Nat.lt_or_ge j 281 with h | g7
  · exact zJall_7 j q T h1 h2 (by omega) h hz
  · omega
