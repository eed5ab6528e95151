section
-- ===== PART A: goes FIRST, ahead of the names: the tables' words, and 'selects' of the private methods out of them =====
/-- a private method of a class that the tables say can be made, by its rows of tables_1 -/
def lw_okq (q : MethodName × Nat) : Prop := (q.1.cls ≠ "java/lang/invoke/MethodHandle" ∧ q.1.cls ≠ "java/lang/invoke/VarHandle") ∧ Cond.instantiable q.1.cls q.2 ∈ tables_1 ∧ Cond.privateMethod q.1 ∈ tables_1 ∧ Cond.instanceMethod q.1 ∈ tables_1
theorem lw_p0 : lw_okq (⟨"OakCourt$Rules", "isSo", "(II)Z"⟩, 8) := ⟨⟨by decide +kernel, by decide +kernel⟩, List.mem_of_getElem? (i := 42) (by decide +kernel), List.mem_of_getElem? (i := 428) (by decide +kernel), List.mem_of_getElem? (i := 429) (by decide +kernel)⟩
theorem lw_p1 : lw_okq (⟨"OakCourt$Rules", "changedBy", "(II)I"⟩, 8) := ⟨⟨by decide +kernel, by decide +kernel⟩, List.mem_of_getElem? (i := 42) (by decide +kernel), List.mem_of_getElem? (i := 435) (by decide +kernel), List.mem_of_getElem? (i := 436) (by decide +kernel)⟩
theorem lw_p2 : lw_okq (⟨"OakCourt$Tape", "nameWord", "(II)I"⟩, 2) := ⟨⟨by decide +kernel, by decide +kernel⟩, List.mem_of_getElem? (i := 205) (by decide +kernel), List.mem_of_getElem? (i := 507) (by decide +kernel), List.mem_of_getElem? (i := 508) (by decide +kernel)⟩
theorem lw_p3 : lw_okq (⟨"OakCourt$Tape", "isName", "(Ljava/lang/String;II)Z"⟩, 2) := ⟨⟨by decide +kernel, by decide +kernel⟩, List.mem_of_getElem? (i := 205) (by decide +kernel), List.mem_of_getElem? (i := 512) (by decide +kernel), List.mem_of_getElem? (i := 513) (by decide +kernel)⟩
theorem lw_p4 : lw_okq (⟨"OakCourt$Tape", "numberWord", "(II)I"⟩, 2) := ⟨⟨by decide +kernel, by decide +kernel⟩, List.mem_of_getElem? (i := 205) (by decide +kernel), List.mem_of_getElem? (i := 581) (by decide +kernel), List.mem_of_getElem? (i := 582) (by decide +kernel)⟩
theorem lw_p5 : lw_okq (⟨"OakCourt$RuleReader", "takes", "(I)Z"⟩, 7) := ⟨⟨by decide +kernel, by decide +kernel⟩, List.mem_of_getElem? (i := 220) (by decide +kernel), List.mem_of_getElem? (i := 585) (by decide +kernel), List.mem_of_getElem? (i := 586) (by decide +kernel)⟩
theorem lw_p6 : lw_okq (⟨"OakCourt$RuleReader", "takesKind", "(I)Z"⟩, 7) := ⟨⟨by decide +kernel, by decide +kernel⟩, List.mem_of_getElem? (i := 220) (by decide +kernel), List.mem_of_getElem? (i := 589) (by decide +kernel), List.mem_of_getElem? (i := 590) (by decide +kernel)⟩
theorem lw_p7 : lw_okq (⟨"OakCourt$RuleReader", "takesIf", "(I)Z"⟩, 7) := ⟨⟨by decide +kernel, by decide +kernel⟩, List.mem_of_getElem? (i := 220) (by decide +kernel), List.mem_of_getElem? (i := 594) (by decide +kernel), List.mem_of_getElem? (i := 595) (by decide +kernel)⟩
theorem lw_p8 : lw_okq (⟨"OakCourt$RuleReader", "takesDeed", "(I)Z"⟩, 7) := ⟨⟨by decide +kernel, by decide +kernel⟩, List.mem_of_getElem? (i := 220) (by decide +kernel), List.mem_of_getElem? (i := 598) (by decide +kernel), List.mem_of_getElem? (i := 599) (by decide +kernel)⟩
theorem lw_p9 : lw_okq (⟨"OakCourt$RuleReader", "settle", "(I)V"⟩, 7) := ⟨⟨by decide +kernel, by decide +kernel⟩, List.mem_of_getElem? (i := 220) (by decide +kernel), List.mem_of_getElem? (i := 602) (by decide +kernel), List.mem_of_getElem? (i := 603) (by decide +kernel)⟩
theorem lw_p10 : lw_okq (⟨"OakCourt$RuleReader", "step", "(I)V"⟩, 7) := ⟨⟨by decide +kernel, by decide +kernel⟩, List.mem_of_getElem? (i := 220) (by decide +kernel), List.mem_of_getElem? (i := 606) (by decide +kernel), List.mem_of_getElem? (i := 607) (by decide +kernel)⟩
theorem lw_p11 : lw_okq (⟨"OakCourt$RuleReader", "takesAmount", "(I)Z"⟩, 7) := ⟨⟨by decide +kernel, by decide +kernel⟩, List.mem_of_getElem? (i := 220) (by decide +kernel), List.mem_of_getElem? (i := 610) (by decide +kernel), List.mem_of_getElem? (i := 611) (by decide +kernel)⟩
theorem lw_p12 : lw_okq (⟨"OakCourt$RuleReader", "takesEnd", "(I)Z"⟩, 7) := ⟨⟨by decide +kernel, by decide +kernel⟩, List.mem_of_getElem? (i := 220) (by decide +kernel), List.mem_of_getElem? (i := 614) (by decide +kernel), List.mem_of_getElem? (i := 615) (by decide +kernel)⟩
theorem lw_p13 : lw_okq (⟨"OakCourt$RuleReader", "takesOne", "(I)Z"⟩, 7) := ⟨⟨by decide +kernel, by decide +kernel⟩, List.mem_of_getElem? (i := 220) (by decide +kernel), List.mem_of_getElem? (i := 618) (by decide +kernel), List.mem_of_getElem? (i := 619) (by decide +kernel)⟩
theorem lw_p14 : lw_okq (⟨"OakCourt$RuleReader", "await", "(I)V"⟩, 7) := ⟨⟨by decide +kernel, by decide +kernel⟩, List.mem_of_getElem? (i := 220) (by decide +kernel), List.mem_of_getElem? (i := 622) (by decide +kernel), List.mem_of_getElem? (i := 623) (by decide +kernel)⟩
theorem lw_p15 : lw_okq (⟨"OakCourt$RuleReader", "takesSign", "(I)Z"⟩, 7) := ⟨⟨by decide +kernel, by decide +kernel⟩, List.mem_of_getElem? (i := 220) (by decide +kernel), List.mem_of_getElem? (i := 629) (by decide +kernel), List.mem_of_getElem? (i := 630) (by decide +kernel)⟩
def lw_privs_1 : List (MethodName × Nat) := [(⟨"OakCourt$Rules", "isSo", "(II)Z"⟩, 8), (⟨"OakCourt$Rules", "changedBy", "(II)I"⟩, 8), (⟨"OakCourt$Tape", "nameWord", "(II)I"⟩, 2), (⟨"OakCourt$Tape", "isName", "(Ljava/lang/String;II)Z"⟩, 2), (⟨"OakCourt$Tape", "numberWord", "(II)I"⟩, 2), (⟨"OakCourt$RuleReader", "takes", "(I)Z"⟩, 7), (⟨"OakCourt$RuleReader", "takesKind", "(I)Z"⟩, 7), (⟨"OakCourt$RuleReader", "takesIf", "(I)Z"⟩, 7), (⟨"OakCourt$RuleReader", "takesDeed", "(I)Z"⟩, 7), (⟨"OakCourt$RuleReader", "settle", "(I)V"⟩, 7), (⟨"OakCourt$RuleReader", "step", "(I)V"⟩, 7), (⟨"OakCourt$RuleReader", "takesAmount", "(I)Z"⟩, 7), (⟨"OakCourt$RuleReader", "takesEnd", "(I)Z"⟩, 7), (⟨"OakCourt$RuleReader", "takesOne", "(I)Z"⟩, 7), (⟨"OakCourt$RuleReader", "await", "(I)V"⟩, 7), (⟨"OakCourt$RuleReader", "takesSign", "(I)Z"⟩, 7)]
theorem lw_r1 : ∀ q ∈ lw_privs_1, lw_okq q := List.forall_mem_cons.mpr ⟨lw_p0, List.forall_mem_cons.mpr ⟨lw_p1, List.forall_mem_cons.mpr ⟨lw_p2, List.forall_mem_cons.mpr ⟨lw_p3, List.forall_mem_cons.mpr ⟨lw_p4, List.forall_mem_cons.mpr ⟨lw_p5, List.forall_mem_cons.mpr ⟨lw_p6, List.forall_mem_cons.mpr ⟨lw_p7, List.forall_mem_cons.mpr ⟨lw_p8, List.forall_mem_cons.mpr ⟨lw_p9, List.forall_mem_cons.mpr ⟨lw_p10, List.forall_mem_cons.mpr ⟨lw_p11, List.forall_mem_cons.mpr ⟨lw_p12, List.forall_mem_cons.mpr ⟨lw_p13, List.forall_mem_cons.mpr ⟨lw_p14, List.forall_mem_cons.mpr ⟨lw_p15, fun _ h => absurd h List.not_mem_nil⟩⟩⟩⟩⟩⟩⟩⟩⟩⟩⟩⟩⟩⟩⟩⟩
theorem lw_p16 : lw_okq (⟨"OakCourt$RuleReader", "takesValue", "(I)Z"⟩, 7) := ⟨⟨by decide +kernel, by decide +kernel⟩, List.mem_of_getElem? (i := 220) (by decide +kernel), List.mem_of_getElem? (i := 633) (by decide +kernel), List.mem_of_getElem? (i := 634) (by decide +kernel)⟩
theorem lw_p17 : lw_okq (⟨"OakCourt$RuleReader", "takesJoint", "(I)Z"⟩, 7) := ⟨⟨by decide +kernel, by decide +kernel⟩, List.mem_of_getElem? (i := 220) (by decide +kernel), List.mem_of_getElem? (i := 637) (by decide +kernel), List.mem_of_getElem? (i := 638) (by decide +kernel)⟩
theorem lw_p18 : lw_okq (⟨"OakCourt$Oak", "breakOff", "(I)I"⟩, 5) := ⟨⟨by decide +kernel, by decide +kernel⟩, List.mem_of_getElem? (i := 30) (by decide +kernel), List.mem_of_getElem? (i := 713) (by decide +kernel), List.mem_of_getElem? (i := 714) (by decide +kernel)⟩
theorem lw_p19 : lw_okq (⟨"OakCourt", "tryWithout", "(I)V"⟩, 10) := ⟨⟨by decide +kernel, by decide +kernel⟩, List.mem_of_getElem? (i := 22) (by decide +kernel), List.mem_of_getElem? (i := 771) (by decide +kernel), List.mem_of_getElem? (i := 772) (by decide +kernel)⟩
theorem lw_p20 : lw_okq (⟨"OakCourt", "seatedIfPropped", "(I)I"⟩, 10) := ⟨⟨by decide +kernel, by decide +kernel⟩, List.mem_of_getElem? (i := 22) (by decide +kernel), List.mem_of_getElem? (i := 784) (by decide +kernel), List.mem_of_getElem? (i := 785) (by decide +kernel)⟩
theorem lw_p21 : lw_okq (⟨"OakCourt", "crackingWinds", "()I"⟩, 10) := ⟨⟨by decide +kernel, by decide +kernel⟩, List.mem_of_getElem? (i := 22) (by decide +kernel), List.mem_of_getElem? (i := 792) (by decide +kernel), List.mem_of_getElem? (i := 793) (by decide +kernel)⟩
theorem lw_p22 : lw_okq (⟨"OakCourt", "isSeatable", "(I)Z"⟩, 10) := ⟨⟨by decide +kernel, by decide +kernel⟩, List.mem_of_getElem? (i := 22) (by decide +kernel), List.mem_of_getElem? (i := 805) (by decide +kernel), List.mem_of_getElem? (i := 806) (by decide +kernel)⟩
theorem lw_p23 : lw_okq (⟨"OakCourt$Seating", "seatsFrom", "(I)Z"⟩, 4) := ⟨⟨by decide +kernel, by decide +kernel⟩, List.mem_of_getElem? (i := 251) (by decide +kernel), List.mem_of_getElem? (i := 823) (by decide +kernel), List.mem_of_getElem? (i := 824) (by decide +kernel)⟩
theorem lw_p24 : lw_okq (⟨"OakCourt$Seating", "valueOf", "(II)I"⟩, 4) := ⟨⟨by decide +kernel, by decide +kernel⟩, List.mem_of_getElem? (i := 251) (by decide +kernel), List.mem_of_getElem? (i := 841) (by decide +kernel), List.mem_of_getElem? (i := 842) (by decide +kernel)⟩
theorem lw_p25 : lw_okq (⟨"OakCourt$Seating", "valueBehind", "(III)I"⟩, 4) := ⟨⟨by decide +kernel, by decide +kernel⟩, List.mem_of_getElem? (i := 251) (by decide +kernel), List.mem_of_getElem? (i := 849) (by decide +kernel), List.mem_of_getElem? (i := 850) (by decide +kernel)⟩
theorem lw_p26 : lw_okq (⟨"OakCourt$Reports", "narrow", "(LOakCourt$Oak;I)V"⟩, 5) := ⟨⟨by decide +kernel, by decide +kernel⟩, List.mem_of_getElem? (i := 156) (by decide +kernel), List.mem_of_getElem? (i := 882) (by decide +kernel), List.mem_of_getElem? (i := 883) (by decide +kernel)⟩
theorem lw_p27 : lw_okq (⟨"OakCourt", "boughOn", "(I)I"⟩, 10) := ⟨⟨by decide +kernel, by decide +kernel⟩, List.mem_of_getElem? (i := 22) (by decide +kernel), List.mem_of_getElem? (i := 1007) (by decide +kernel), List.mem_of_getElem? (i := 1008) (by decide +kernel)⟩
theorem lw_p28 : lw_okq (⟨"OakCourt$Acts", "begin", "(I)V"⟩, 6) := ⟨⟨by decide +kernel, by decide +kernel⟩, List.mem_of_getElem? (i := 324) (by decide +kernel), List.mem_of_getElem? (i := 1028) (by decide +kernel), List.mem_of_getElem? (i := 1029) (by decide +kernel)⟩
theorem lw_p29 : lw_okq (⟨"OakCourt$Acts", "plainSways", "(I)I"⟩, 6) := ⟨⟨by decide +kernel, by decide +kernel⟩, List.mem_of_getElem? (i := 324) (by decide +kernel), List.mem_of_getElem? (i := 1032) (by decide +kernel), List.mem_of_getElem? (i := 1033) (by decide +kernel)⟩
theorem lw_p30 : lw_okq (⟨"OakCourt$Acts", "plainBends", "(I)I"⟩, 6) := ⟨⟨by decide +kernel, by decide +kernel⟩, List.mem_of_getElem? (i := 324) (by decide +kernel), List.mem_of_getElem? (i := 1040) (by decide +kernel), List.mem_of_getElem? (i := 1041) (by decide +kernel)⟩
theorem lw_p31 : lw_okq (⟨"OakCourt$Acts", "proppedShares", "(I)I"⟩, 6) := ⟨⟨by decide +kernel, by decide +kernel⟩, List.mem_of_getElem? (i := 324) (by decide +kernel), List.mem_of_getElem? (i := 1049) (by decide +kernel), List.mem_of_getElem? (i := 1050) (by decide +kernel)⟩
def lw_privs_2 : List (MethodName × Nat) := [(⟨"OakCourt$RuleReader", "takesValue", "(I)Z"⟩, 7), (⟨"OakCourt$RuleReader", "takesJoint", "(I)Z"⟩, 7), (⟨"OakCourt$Oak", "breakOff", "(I)I"⟩, 5), (⟨"OakCourt", "tryWithout", "(I)V"⟩, 10), (⟨"OakCourt", "seatedIfPropped", "(I)I"⟩, 10), (⟨"OakCourt", "crackingWinds", "()I"⟩, 10), (⟨"OakCourt", "isSeatable", "(I)Z"⟩, 10), (⟨"OakCourt$Seating", "seatsFrom", "(I)Z"⟩, 4), (⟨"OakCourt$Seating", "valueOf", "(II)I"⟩, 4), (⟨"OakCourt$Seating", "valueBehind", "(III)I"⟩, 4), (⟨"OakCourt$Reports", "narrow", "(LOakCourt$Oak;I)V"⟩, 5), (⟨"OakCourt", "boughOn", "(I)I"⟩, 10), (⟨"OakCourt$Acts", "begin", "(I)V"⟩, 6), (⟨"OakCourt$Acts", "plainSways", "(I)I"⟩, 6), (⟨"OakCourt$Acts", "plainBends", "(I)I"⟩, 6), (⟨"OakCourt$Acts", "proppedShares", "(I)I"⟩, 6)]
theorem lw_r2 : ∀ q ∈ lw_privs_2, lw_okq q := List.forall_mem_cons.mpr ⟨lw_p16, List.forall_mem_cons.mpr ⟨lw_p17, List.forall_mem_cons.mpr ⟨lw_p18, List.forall_mem_cons.mpr ⟨lw_p19, List.forall_mem_cons.mpr ⟨lw_p20, List.forall_mem_cons.mpr ⟨lw_p21, List.forall_mem_cons.mpr ⟨lw_p22, List.forall_mem_cons.mpr ⟨lw_p23, List.forall_mem_cons.mpr ⟨lw_p24, List.forall_mem_cons.mpr ⟨lw_p25, List.forall_mem_cons.mpr ⟨lw_p26, List.forall_mem_cons.mpr ⟨lw_p27, List.forall_mem_cons.mpr ⟨lw_p28, List.forall_mem_cons.mpr ⟨lw_p29, List.forall_mem_cons.mpr ⟨lw_p30, List.forall_mem_cons.mpr ⟨lw_p31, fun _ h => absurd h List.not_mem_nil⟩⟩⟩⟩⟩⟩⟩⟩⟩⟩⟩⟩⟩⟩⟩⟩
theorem lw_p32 : lw_okq (⟨"OakCourt$Acts", "plainShares", "(I)I"⟩, 6) := ⟨⟨by decide +kernel, by decide +kernel⟩, List.mem_of_getElem? (i := 324) (by decide +kernel), List.mem_of_getElem? (i := 1053) (by decide +kernel), List.mem_of_getElem? (i := 1054) (by decide +kernel)⟩
theorem lw_p33 : lw_okq (⟨"OakCourt$Acts", "plainTells", "(I)I"⟩, 6) := ⟨⟨by decide +kernel, by decide +kernel⟩, List.mem_of_getElem? (i := 324) (by decide +kernel), List.mem_of_getElem? (i := 1061) (by decide +kernel), List.mem_of_getElem? (i := 1062) (by decide +kernel)⟩
theorem lw_p34 : lw_okq (⟨"OakCourtModel", "isBough", "(I)Z"⟩, 37) := ⟨⟨by decide +kernel, by decide +kernel⟩, List.mem_of_getElem? (i := 1083) (by decide +kernel), List.mem_of_getElem? (i := 1209) (by decide +kernel), List.mem_of_getElem? (i := 1210) (by decide +kernel)⟩
theorem lw_p35 : lw_okq (⟨"OakCourtModel", "isBroken", "(I)Z"⟩, 37) := ⟨⟨by decide +kernel, by decide +kernel⟩, List.mem_of_getElem? (i := 1083) (by decide +kernel), List.mem_of_getElem? (i := 1218) (by decide +kernel), List.mem_of_getElem? (i := 1219) (by decide +kernel)⟩
theorem lw_p36 : lw_okq (⟨"OakCourtModel", "its", "(II)I"⟩, 37) := ⟨⟨by decide +kernel, by decide +kernel⟩, List.mem_of_getElem? (i := 1083) (by decide +kernel), List.mem_of_getElem? (i := 1222) (by decide +kernel), List.mem_of_getElem? (i := 1223) (by decide +kernel)⟩
theorem lw_p37 : lw_okq (⟨"OakCourtModel", "findAll", "()V"⟩, 37) := ⟨⟨by decide +kernel, by decide +kernel⟩, List.mem_of_getElem? (i := 1083) (by decide +kernel), List.mem_of_getElem? (i := 1234) (by decide +kernel), List.mem_of_getElem? (i := 1235) (by decide +kernel)⟩
theorem lw_p38 : lw_okq (⟨"OakCourtModel", "findHolds", "()V"⟩, 37) := ⟨⟨by decide +kernel, by decide +kernel⟩, List.mem_of_getElem? (i := 1083) (by decide +kernel), List.mem_of_getElem? (i := 1238) (by decide +kernel), List.mem_of_getElem? (i := 1239) (by decide +kernel)⟩
theorem lw_p39 : lw_okq (⟨"OakCourtModel", "holdsNow", "(I)I"⟩, 37) := ⟨⟨by decide +kernel, by decide +kernel⟩, List.mem_of_getElem? (i := 1083) (by decide +kernel), List.mem_of_getElem? (i := 1242) (by decide +kernel), List.mem_of_getElem? (i := 1243) (by decide +kernel)⟩
theorem lw_p40 : lw_okq (⟨"OakCourtModel", "isSo", "(III)Z"⟩, 37) := ⟨⟨by decide +kernel, by decide +kernel⟩, List.mem_of_getElem? (i := 1083) (by decide +kernel), List.mem_of_getElem? (i := 1249) (by decide +kernel), List.mem_of_getElem? (i := 1250) (by decide +kernel)⟩
theorem lw_p41 : lw_okq (⟨"OakCourtModel", "fact", "(II)I"⟩, 37) := ⟨⟨by decide +kernel, by decide +kernel⟩, List.mem_of_getElem? (i := 1083) (by decide +kernel), List.mem_of_getElem? (i := 1253) (by decide +kernel), List.mem_of_getElem? (i := 1254) (by decide +kernel)⟩
theorem lw_p42 : lw_okq (⟨"OakCourtModel", "findBears", "()V"⟩, 37) := ⟨⟨by decide +kernel, by decide +kernel⟩, List.mem_of_getElem? (i := 1083) (by decide +kernel), List.mem_of_getElem? (i := 1260) (by decide +kernel), List.mem_of_getElem? (i := 1261) (by decide +kernel)⟩
theorem lw_p43 : lw_okq (⟨"OakCourtModel", "seatOf", "(I)I"⟩, 37) := ⟨⟨by decide +kernel, by decide +kernel⟩, List.mem_of_getElem? (i := 1083) (by decide +kernel), List.mem_of_getElem? (i := 1264) (by decide +kernel), List.mem_of_getElem? (i := 1265) (by decide +kernel)⟩
theorem lw_p44 : lw_okq (⟨"OakCourtModel", "whose", "(II)I"⟩, 37) := ⟨⟨by decide +kernel, by decide +kernel⟩, List.mem_of_getElem? (i := 1083) (by decide +kernel), List.mem_of_getElem? (i := 1268) (by decide +kernel), List.mem_of_getElem? (i := 1269) (by decide +kernel)⟩
theorem lw_p45 : lw_okq (⟨"OakCourtModel", "loads", "(II)V"⟩, 37) := ⟨⟨by decide +kernel, by decide +kernel⟩, List.mem_of_getElem? (i := 1083) (by decide +kernel), List.mem_of_getElem? (i := 1275) (by decide +kernel), List.mem_of_getElem? (i := 1276) (by decide +kernel)⟩
theorem lw_p46 : lw_okq (⟨"OakCourtModel", "below", "(I)I"⟩, 37) := ⟨⟨by decide +kernel, by decide +kernel⟩, List.mem_of_getElem? (i := 1083) (by decide +kernel), List.mem_of_getElem? (i := 1279) (by decide +kernel), List.mem_of_getElem? (i := 1280) (by decide +kernel)⟩
theorem lw_p47 : lw_okq (⟨"OakCourtModel", "isCracking", "(I)Z"⟩, 37) := ⟨⟨by decide +kernel, by decide +kernel⟩, List.mem_of_getElem? (i := 1083) (by decide +kernel), List.mem_of_getElem? (i := 1283) (by decide +kernel), List.mem_of_getElem? (i := 1284) (by decide +kernel)⟩
def lw_privs_3 : List (MethodName × Nat) := [(⟨"OakCourt$Acts", "plainShares", "(I)I"⟩, 6), (⟨"OakCourt$Acts", "plainTells", "(I)I"⟩, 6), (⟨"OakCourtModel", "isBough", "(I)Z"⟩, 37), (⟨"OakCourtModel", "isBroken", "(I)Z"⟩, 37), (⟨"OakCourtModel", "its", "(II)I"⟩, 37), (⟨"OakCourtModel", "findAll", "()V"⟩, 37), (⟨"OakCourtModel", "findHolds", "()V"⟩, 37), (⟨"OakCourtModel", "holdsNow", "(I)I"⟩, 37), (⟨"OakCourtModel", "isSo", "(III)Z"⟩, 37), (⟨"OakCourtModel", "fact", "(II)I"⟩, 37), (⟨"OakCourtModel", "findBears", "()V"⟩, 37), (⟨"OakCourtModel", "seatOf", "(I)I"⟩, 37), (⟨"OakCourtModel", "whose", "(II)I"⟩, 37), (⟨"OakCourtModel", "loads", "(II)V"⟩, 37), (⟨"OakCourtModel", "below", "(I)I"⟩, 37), (⟨"OakCourtModel", "isCracking", "(I)Z"⟩, 37)]
theorem lw_r3 : ∀ q ∈ lw_privs_3, lw_okq q := List.forall_mem_cons.mpr ⟨lw_p32, List.forall_mem_cons.mpr ⟨lw_p33, List.forall_mem_cons.mpr ⟨lw_p34, List.forall_mem_cons.mpr ⟨lw_p35, List.forall_mem_cons.mpr ⟨lw_p36, List.forall_mem_cons.mpr ⟨lw_p37, List.forall_mem_cons.mpr ⟨lw_p38, List.forall_mem_cons.mpr ⟨lw_p39, List.forall_mem_cons.mpr ⟨lw_p40, List.forall_mem_cons.mpr ⟨lw_p41, List.forall_mem_cons.mpr ⟨lw_p42, List.forall_mem_cons.mpr ⟨lw_p43, List.forall_mem_cons.mpr ⟨lw_p44, List.forall_mem_cons.mpr ⟨lw_p45, List.forall_mem_cons.mpr ⟨lw_p46, List.forall_mem_cons.mpr ⟨lw_p47, fun _ h => absurd h List.not_mem_nil⟩⟩⟩⟩⟩⟩⟩⟩⟩⟩⟩⟩⟩⟩⟩⟩
theorem lw_p48 : lw_okq (⟨"OakCourtModel", "isPerson", "(I)Z"⟩, 37) := ⟨⟨by decide +kernel, by decide +kernel⟩, List.mem_of_getElem? (i := 1083) (by decide +kernel), List.mem_of_getElem? (i := 1308) (by decide +kernel), List.mem_of_getElem? (i := 1309) (by decide +kernel)⟩
theorem lw_p49 : lw_okq (⟨"OakCourtModel", "toldSeat", "(I)I"⟩, 37) := ⟨⟨by decide +kernel, by decide +kernel⟩, List.mem_of_getElem? (i := 1083) (by decide +kernel), List.mem_of_getElem? (i := 1313) (by decide +kernel), List.mem_of_getElem? (i := 1314) (by decide +kernel)⟩
theorem lw_p50 : lw_okq (⟨"OakCourtModel", "seats", "(II)V"⟩, 37) := ⟨⟨by decide +kernel, by decide +kernel⟩, List.mem_of_getElem? (i := 1083) (by decide +kernel), List.mem_of_getElem? (i := 1321) (by decide +kernel), List.mem_of_getElem? (i := 1322) (by decide +kernel)⟩
theorem lw_p51 : lw_okq (⟨"OakCourtModel", "crackSet", "()I"⟩, 37) := ⟨⟨by decide +kernel, by decide +kernel⟩, List.mem_of_getElem? (i := 1083) (by decide +kernel), List.mem_of_getElem? (i := 1333) (by decide +kernel), List.mem_of_getElem? (i := 1334) (by decide +kernel)⟩
theorem lw_p52 : lw_okq (⟨"OakCourtModel", "worstOf", "()I"⟩, 37) := ⟨⟨by decide +kernel, by decide +kernel⟩, List.mem_of_getElem? (i := 1083) (by decide +kernel), List.mem_of_getElem? (i := 1341) (by decide +kernel), List.mem_of_getElem? (i := 1342) (by decide +kernel)⟩
theorem lw_p53 : lw_okq (⟨"OakCourtModel", "falls", "()I"⟩, 37) := ⟨⟨by decide +kernel, by decide +kernel⟩, List.mem_of_getElem? (i := 1083) (by decide +kernel), List.mem_of_getElem? (i := 1349) (by decide +kernel), List.mem_of_getElem? (i := 1350) (by decide +kernel)⟩
theorem lw_p54 : lw_okq (⟨"OakCourtModel", "isAbove", "(II)Z"⟩, 37) := ⟨⟨by decide +kernel, by decide +kernel⟩, List.mem_of_getElem? (i := 1083) (by decide +kernel), List.mem_of_getElem? (i := 1353) (by decide +kernel), List.mem_of_getElem? (i := 1354) (by decide +kernel)⟩
theorem lw_p55 : lw_okq (⟨"OakCourtModel", "puts", "()V"⟩, 37) := ⟨⟨by decide +kernel, by decide +kernel⟩, List.mem_of_getElem? (i := 1083) (by decide +kernel), List.mem_of_getElem? (i := 1361) (by decide +kernel), List.mem_of_getElem? (i := 1362) (by decide +kernel)⟩
theorem lw_p56 : lw_okq (⟨"OakCourtModel", "putsBack", "()V"⟩, 37) := ⟨⟨by decide +kernel, by decide +kernel⟩, List.mem_of_getElem? (i := 1083) (by decide +kernel), List.mem_of_getElem? (i := 1365) (by decide +kernel), List.mem_of_getElem? (i := 1366) (by decide +kernel)⟩
theorem lw_p57 : lw_okq (⟨"OakCourtModel", "findStanding", "()V"⟩, 37) := ⟨⟨by decide +kernel, by decide +kernel⟩, List.mem_of_getElem? (i := 1083) (by decide +kernel), List.mem_of_getElem? (i := 1373) (by decide +kernel), List.mem_of_getElem? (i := 1374) (by decide +kernel)⟩
theorem lw_p58 : lw_okq (⟨"OakCourtModel", "roomOf", "(I)I"⟩, 37) := ⟨⟨by decide +kernel, by decide +kernel⟩, List.mem_of_getElem? (i := 1083) (by decide +kernel), List.mem_of_getElem? (i := 1385) (by decide +kernel), List.mem_of_getElem? (i := 1386) (by decide +kernel)⟩
theorem lw_p59 : lw_okq (⟨"OakCourtModel", "isSafe", "()Z"⟩, 37) := ⟨⟨by decide +kernel, by decide +kernel⟩, List.mem_of_getElem? (i := 1083) (by decide +kernel), List.mem_of_getElem? (i := 1397) (by decide +kernel), List.mem_of_getElem? (i := 1398) (by decide +kernel)⟩
theorem lw_p60 : lw_okq (⟨"OakCourtModel", "leastOf", "(IZ)I"⟩, 37) := ⟨⟨by decide +kernel, by decide +kernel⟩, List.mem_of_getElem? (i := 1083) (by decide +kernel), List.mem_of_getElem? (i := 1409) (by decide +kernel), List.mem_of_getElem? (i := 1410) (by decide +kernel)⟩
theorem lw_p61 : lw_okq (⟨"OakCourtModel", "isParty", "(I)Z"⟩, 37) := ⟨⟨by decide +kernel, by decide +kernel⟩, List.mem_of_getElem? (i := 1083) (by decide +kernel), List.mem_of_getElem? (i := 1421) (by decide +kernel), List.mem_of_getElem? (i := 1422) (by decide +kernel)⟩
theorem lw_p62 : lw_okq (⟨"OakCourtModel", "findSeating", "(I)Z"⟩, 37) := ⟨⟨by decide +kernel, by decide +kernel⟩, List.mem_of_getElem? (i := 1083) (by decide +kernel), List.mem_of_getElem? (i := 1429) (by decide +kernel), List.mem_of_getElem? (i := 1430) (by decide +kernel)⟩
theorem lw_p63 : lw_okq (⟨"OakCourtModel", "canSeat", "(I)Z"⟩, 37) := ⟨⟨by decide +kernel, by decide +kernel⟩, List.mem_of_getElem? (i := 1083) (by decide +kernel), List.mem_of_getElem? (i := 1436) (by decide +kernel), List.mem_of_getElem? (i := 1437) (by decide +kernel)⟩
def lw_privs_4 : List (MethodName × Nat) := [(⟨"OakCourtModel", "isPerson", "(I)Z"⟩, 37), (⟨"OakCourtModel", "toldSeat", "(I)I"⟩, 37), (⟨"OakCourtModel", "seats", "(II)V"⟩, 37), (⟨"OakCourtModel", "crackSet", "()I"⟩, 37), (⟨"OakCourtModel", "worstOf", "()I"⟩, 37), (⟨"OakCourtModel", "falls", "()I"⟩, 37), (⟨"OakCourtModel", "isAbove", "(II)Z"⟩, 37), (⟨"OakCourtModel", "puts", "()V"⟩, 37), (⟨"OakCourtModel", "putsBack", "()V"⟩, 37), (⟨"OakCourtModel", "findStanding", "()V"⟩, 37), (⟨"OakCourtModel", "roomOf", "(I)I"⟩, 37), (⟨"OakCourtModel", "isSafe", "()Z"⟩, 37), (⟨"OakCourtModel", "leastOf", "(IZ)I"⟩, 37), (⟨"OakCourtModel", "isParty", "(I)Z"⟩, 37), (⟨"OakCourtModel", "findSeating", "(I)Z"⟩, 37), (⟨"OakCourtModel", "canSeat", "(I)Z"⟩, 37)]
theorem lw_r4 : ∀ q ∈ lw_privs_4, lw_okq q := List.forall_mem_cons.mpr ⟨lw_p48, List.forall_mem_cons.mpr ⟨lw_p49, List.forall_mem_cons.mpr ⟨lw_p50, List.forall_mem_cons.mpr ⟨lw_p51, List.forall_mem_cons.mpr ⟨lw_p52, List.forall_mem_cons.mpr ⟨lw_p53, List.forall_mem_cons.mpr ⟨lw_p54, List.forall_mem_cons.mpr ⟨lw_p55, List.forall_mem_cons.mpr ⟨lw_p56, List.forall_mem_cons.mpr ⟨lw_p57, List.forall_mem_cons.mpr ⟨lw_p58, List.forall_mem_cons.mpr ⟨lw_p59, List.forall_mem_cons.mpr ⟨lw_p60, List.forall_mem_cons.mpr ⟨lw_p61, List.forall_mem_cons.mpr ⟨lw_p62, List.forall_mem_cons.mpr ⟨lw_p63, fun _ h => absurd h List.not_mem_nil⟩⟩⟩⟩⟩⟩⟩⟩⟩⟩⟩⟩⟩⟩⟩⟩
theorem lw_p64 : lw_okq (⟨"OakCourtModel", "valueOf", "(II)I"⟩, 37) := ⟨⟨by decide +kernel, by decide +kernel⟩, List.mem_of_getElem? (i := 1083) (by decide +kernel), List.mem_of_getElem? (i := 1452) (by decide +kernel), List.mem_of_getElem? (i := 1453) (by decide +kernel)⟩
theorem lw_p65 : lw_okq (⟨"OakCourtModel", "idler", "(I)I"⟩, 37) := ⟨⟨by decide +kernel, by decide +kernel⟩, List.mem_of_getElem? (i := 1083) (by decide +kernel), List.mem_of_getElem? (i := 1456) (by decide +kernel), List.mem_of_getElem? (i := 1457) (by decide +kernel)⟩
theorem lw_p66 : lw_okq (⟨"OakCourtModel", "leadsTo", "(IIII)I"⟩, 37) := ⟨⟨by decide +kernel, by decide +kernel⟩, List.mem_of_getElem? (i := 1083) (by decide +kernel), List.mem_of_getElem? (i := 1460) (by decide +kernel), List.mem_of_getElem? (i := 1461) (by decide +kernel)⟩
theorem lw_p67 : lw_okq (⟨"OakCourtModel", "findFits", "(I)V"⟩, 37) := ⟨⟨by decide +kernel, by decide +kernel⟩, List.mem_of_getElem? (i := 1083) (by decide +kernel), List.mem_of_getElem? (i := 1483) (by decide +kernel), List.mem_of_getElem? (i := 1484) (by decide +kernel)⟩
theorem lw_p68 : lw_okq (⟨"OakCourtModel", "isCracked", "(II)Z"⟩, 37) := ⟨⟨by decide +kernel, by decide +kernel⟩, List.mem_of_getElem? (i := 1083) (by decide +kernel), List.mem_of_getElem? (i := 1487) (by decide +kernel), List.mem_of_getElem? (i := 1488) (by decide +kernel)⟩
theorem lw_p69 : lw_okq (⟨"OakCourtModel", "isRow", "(II)Z"⟩, 37) := ⟨⟨by decide +kernel, by decide +kernel⟩, List.mem_of_getElem? (i := 1083) (by decide +kernel), List.mem_of_getElem? (i := 1518) (by decide +kernel), List.mem_of_getElem? (i := 1519) (by decide +kernel)⟩
theorem lw_p70 : lw_okq (⟨"OakCourtModel", "token", "()V"⟩, 37) := ⟨⟨by decide +kernel, by decide +kernel⟩, List.mem_of_getElem? (i := 1083) (by decide +kernel), List.mem_of_getElem? (i := 1540) (by decide +kernel), List.mem_of_getElem? (i := 1541) (by decide +kernel)⟩
theorem lw_p71 : lw_okq (⟨"OakCourtModel", "byteAt", "(I)I"⟩, 37) := ⟨⟨by decide +kernel, by decide +kernel⟩, List.mem_of_getElem? (i := 1083) (by decide +kernel), List.mem_of_getElem? (i := 1544) (by decide +kernel), List.mem_of_getElem? (i := 1545) (by decide +kernel)⟩
theorem lw_p72 : lw_okq (⟨"OakCourtModel", "rule", "()V"⟩, 37) := ⟨⟨by decide +kernel, by decide +kernel⟩, List.mem_of_getElem? (i := 1083) (by decide +kernel), List.mem_of_getElem? (i := 1558) (by decide +kernel), List.mem_of_getElem? (i := 1559) (by decide +kernel)⟩
theorem lw_p73 : lw_okq (⟨"OakCourtModel", "kindHere", "()I"⟩, 37) := ⟨⟨by decide +kernel, by decide +kernel⟩, List.mem_of_getElem? (i := 1083) (by decide +kernel), List.mem_of_getElem? (i := 1562) (by decide +kernel), List.mem_of_getElem? (i := 1563) (by decide +kernel)⟩
theorem lw_p74 : lw_okq (⟨"OakCourtModel", "word", "()J"⟩, 37) := ⟨⟨by decide +kernel, by decide +kernel⟩, List.mem_of_getElem? (i := 1083) (by decide +kernel), List.mem_of_getElem? (i := 1566) (by decide +kernel), List.mem_of_getElem? (i := 1567) (by decide +kernel)⟩
theorem lw_p75 : lw_okq (⟨"OakCourtModel", "needs", "(Z)V"⟩, 37) := ⟨⟨by decide +kernel, by decide +kernel⟩, List.mem_of_getElem? (i := 1083) (by decide +kernel), List.mem_of_getElem? (i := 1578) (by decide +kernel), List.mem_of_getElem? (i := 1579) (by decide +kernel)⟩
theorem lw_p76 : lw_okq (⟨"OakCourtModel", "condition", "()V"⟩, 37) := ⟨⟨by decide +kernel, by decide +kernel⟩, List.mem_of_getElem? (i := 1083) (by decide +kernel), List.mem_of_getElem? (i := 1583) (by decide +kernel), List.mem_of_getElem? (i := 1584) (by decide +kernel)⟩
theorem lw_p77 : lw_okq (⟨"OakCourtModel", "all", "()V"⟩, 37) := ⟨⟨by decide +kernel, by decide +kernel⟩, List.mem_of_getElem? (i := 1083) (by decide +kernel), List.mem_of_getElem? (i := 1587) (by decide +kernel), List.mem_of_getElem? (i := 1588) (by decide +kernel)⟩
theorem lw_p78 : lw_okq (⟨"OakCourtModel", "one", "()V"⟩, 37) := ⟨⟨by decide +kernel, by decide +kernel⟩, List.mem_of_getElem? (i := 1083) (by decide +kernel), List.mem_of_getElem? (i := 1591) (by decide +kernel), List.mem_of_getElem? (i := 1592) (by decide +kernel)⟩
theorem lw_p79 : lw_okq (⟨"OakCourtModel", "comparison", "()V"⟩, 37) := ⟨⟨by decide +kernel, by decide +kernel⟩, List.mem_of_getElem? (i := 1083) (by decide +kernel), List.mem_of_getElem? (i := 1596) (by decide +kernel), List.mem_of_getElem? (i := 1597) (by decide +kernel)⟩
def lw_privs_5 : List (MethodName × Nat) := [(⟨"OakCourtModel", "valueOf", "(II)I"⟩, 37), (⟨"OakCourtModel", "idler", "(I)I"⟩, 37), (⟨"OakCourtModel", "leadsTo", "(IIII)I"⟩, 37), (⟨"OakCourtModel", "findFits", "(I)V"⟩, 37), (⟨"OakCourtModel", "isCracked", "(II)Z"⟩, 37), (⟨"OakCourtModel", "isRow", "(II)Z"⟩, 37), (⟨"OakCourtModel", "token", "()V"⟩, 37), (⟨"OakCourtModel", "byteAt", "(I)I"⟩, 37), (⟨"OakCourtModel", "rule", "()V"⟩, 37), (⟨"OakCourtModel", "kindHere", "()I"⟩, 37), (⟨"OakCourtModel", "word", "()J"⟩, 37), (⟨"OakCourtModel", "needs", "(Z)V"⟩, 37), (⟨"OakCourtModel", "condition", "()V"⟩, 37), (⟨"OakCourtModel", "all", "()V"⟩, 37), (⟨"OakCourtModel", "one", "()V"⟩, 37), (⟨"OakCourtModel", "comparison", "()V"⟩, 37)]
theorem lw_r5 : ∀ q ∈ lw_privs_5, lw_okq q := List.forall_mem_cons.mpr ⟨lw_p64, List.forall_mem_cons.mpr ⟨lw_p65, List.forall_mem_cons.mpr ⟨lw_p66, List.forall_mem_cons.mpr ⟨lw_p67, List.forall_mem_cons.mpr ⟨lw_p68, List.forall_mem_cons.mpr ⟨lw_p69, List.forall_mem_cons.mpr ⟨lw_p70, List.forall_mem_cons.mpr ⟨lw_p71, List.forall_mem_cons.mpr ⟨lw_p72, List.forall_mem_cons.mpr ⟨lw_p73, List.forall_mem_cons.mpr ⟨lw_p74, List.forall_mem_cons.mpr ⟨lw_p75, List.forall_mem_cons.mpr ⟨lw_p76, List.forall_mem_cons.mpr ⟨lw_p77, List.forall_mem_cons.mpr ⟨lw_p78, List.forall_mem_cons.mpr ⟨lw_p79, fun _ h => absurd h List.not_mem_nil⟩⟩⟩⟩⟩⟩⟩⟩⟩⟩⟩⟩⟩⟩⟩⟩
theorem lw_p80 : lw_okq (⟨"OakCourtModel", "valueHere", "()V"⟩, 37) := ⟨⟨by decide +kernel, by decide +kernel⟩, List.mem_of_getElem? (i := 1083) (by decide +kernel), List.mem_of_getElem? (i := 1600) (by decide +kernel), List.mem_of_getElem? (i := 1601) (by decide +kernel)⟩
theorem lw_p81 : lw_okq (⟨"OakCourtModel", "factHere", "()I"⟩, 37) := ⟨⟨by decide +kernel, by decide +kernel⟩, List.mem_of_getElem? (i := 1083) (by decide +kernel), List.mem_of_getElem? (i := 1604) (by decide +kernel), List.mem_of_getElem? (i := 1605) (by decide +kernel)⟩
theorem lw_p82 : lw_okq (⟨"OakCourtModel", "writes", "(I)V"⟩, 37) := ⟨⟨by decide +kernel, by decide +kernel⟩, List.mem_of_getElem? (i := 1083) (by decide +kernel), List.mem_of_getElem? (i := 1613) (by decide +kernel), List.mem_of_getElem? (i := 1614) (by decide +kernel)⟩
theorem lw_p83 : lw_okq (⟨"OakCourtModel", "number", "(I)V"⟩, 37) := ⟨⟨by decide +kernel, by decide +kernel⟩, List.mem_of_getElem? (i := 1083) (by decide +kernel), List.mem_of_getElem? (i := 1617) (by decide +kernel), List.mem_of_getElem? (i := 1618) (by decide +kernel)⟩
theorem lw_p84 : lw_okq (⟨"OakCourtModel", "wrong", "(II)I"⟩, 37) := ⟨⟨by decide +kernel, by decide +kernel⟩, List.mem_of_getElem? (i := 1083) (by decide +kernel), List.mem_of_getElem? (i := 1645) (by decide +kernel), List.mem_of_getElem? (i := 1646) (by decide +kernel)⟩
theorem lw_p85 : lw_okq (⟨"OakCourtModel", "onShelf", "(I)I"⟩, 37) := ⟨⟨by decide +kernel, by decide +kernel⟩, List.mem_of_getElem? (i := 1083) (by decide +kernel), List.mem_of_getElem? (i := 1665) (by decide +kernel), List.mem_of_getElem? (i := 1666) (by decide +kernel)⟩
theorem lw_p86 : lw_okq (⟨"OakCourtModel", "sways", "(I)I"⟩, 37) := ⟨⟨by decide +kernel, by decide +kernel⟩, List.mem_of_getElem? (i := 1083) (by decide +kernel), List.mem_of_getElem? (i := 1673) (by decide +kernel), List.mem_of_getElem? (i := 1674) (by decide +kernel)⟩
theorem lw_p87 : lw_okq (⟨"OakCourtModel", "runs", "(I)V"⟩, 37) := ⟨⟨by decide +kernel, by decide +kernel⟩, List.mem_of_getElem? (i := 1083) (by decide +kernel), List.mem_of_getElem? (i := 1677) (by decide +kernel), List.mem_of_getElem? (i := 1678) (by decide +kernel)⟩
theorem lw_p88 : lw_okq (⟨"OakCourtModel", "bends", "(I)I"⟩, 37) := ⟨⟨by decide +kernel, by decide +kernel⟩, List.mem_of_getElem? (i := 1083) (by decide +kernel), List.mem_of_getElem? (i := 1681) (by decide +kernel), List.mem_of_getElem? (i := 1682) (by decide +kernel)⟩
theorem lw_p89 : lw_okq (⟨"OakCourtModel", "shares", "(I)I"⟩, 37) := ⟨⟨by decide +kernel, by decide +kernel⟩, List.mem_of_getElem? (i := 1083) (by decide +kernel), List.mem_of_getElem? (i := 1685) (by decide +kernel), List.mem_of_getElem? (i := 1686) (by decide +kernel)⟩
theorem lw_p90 : lw_okq (⟨"OakCourtModel", "parts", "(I)I"⟩, 37) := ⟨⟨by decide +kernel, by decide +kernel⟩, List.mem_of_getElem? (i := 1083) (by decide +kernel), List.mem_of_getElem? (i := 1689) (by decide +kernel), List.mem_of_getElem? (i := 1690) (by decide +kernel)⟩
theorem lw_p91 : lw_okq (⟨"OakCourtModel", "tells", "(I)I"⟩, 37) := ⟨⟨by decide +kernel, by decide +kernel⟩, List.mem_of_getElem? (i := 1083) (by decide +kernel), List.mem_of_getElem? (i := 1693) (by decide +kernel), List.mem_of_getElem? (i := 1694) (by decide +kernel)⟩
theorem lw_p92 : lw_okq (⟨"OakCourtModel", "traced", "()I"⟩, 37) := ⟨⟨by decide +kernel, by decide +kernel⟩, List.mem_of_getElem? (i := 1083) (by decide +kernel), List.mem_of_getElem? (i := 1701) (by decide +kernel), List.mem_of_getElem? (i := 1702) (by decide +kernel)⟩
def lw_privs_6 : List (MethodName × Nat) := [(⟨"OakCourtModel", "valueHere", "()V"⟩, 37), (⟨"OakCourtModel", "factHere", "()I"⟩, 37), (⟨"OakCourtModel", "writes", "(I)V"⟩, 37), (⟨"OakCourtModel", "number", "(I)V"⟩, 37), (⟨"OakCourtModel", "wrong", "(II)I"⟩, 37), (⟨"OakCourtModel", "onShelf", "(I)I"⟩, 37), (⟨"OakCourtModel", "sways", "(I)I"⟩, 37), (⟨"OakCourtModel", "runs", "(I)V"⟩, 37), (⟨"OakCourtModel", "bends", "(I)I"⟩, 37), (⟨"OakCourtModel", "shares", "(I)I"⟩, 37), (⟨"OakCourtModel", "parts", "(I)I"⟩, 37), (⟨"OakCourtModel", "tells", "(I)I"⟩, 37), (⟨"OakCourtModel", "traced", "()I"⟩, 37)]
theorem lw_r6 : ∀ q ∈ lw_privs_6, lw_okq q := List.forall_mem_cons.mpr ⟨lw_p80, List.forall_mem_cons.mpr ⟨lw_p81, List.forall_mem_cons.mpr ⟨lw_p82, List.forall_mem_cons.mpr ⟨lw_p83, List.forall_mem_cons.mpr ⟨lw_p84, List.forall_mem_cons.mpr ⟨lw_p85, List.forall_mem_cons.mpr ⟨lw_p86, List.forall_mem_cons.mpr ⟨lw_p87, List.forall_mem_cons.mpr ⟨lw_p88, List.forall_mem_cons.mpr ⟨lw_p89, List.forall_mem_cons.mpr ⟨lw_p90, List.forall_mem_cons.mpr ⟨lw_p91, List.forall_mem_cons.mpr ⟨lw_p92, fun _ h => absurd h List.not_mem_nil⟩⟩⟩⟩⟩⟩⟩⟩⟩⟩⟩⟩⟩
def lw_privs : List (MethodName × Nat) := lw_privs_1 ++ (lw_privs_2 ++ (lw_privs_3 ++ (lw_privs_4 ++ (lw_privs_5 ++ (lw_privs_6)))))
def lw_tbl : List Cond := k2_sels lw_privs ++ tables_1
theorem lw_privs_ok : ∀ q ∈ lw_privs, lw_okq q := by
  show ∀ q ∈ lw_privs_1 ++ (lw_privs_2 ++ (lw_privs_3 ++ (lw_privs_4 ++ (lw_privs_5 ++ (lw_privs_6))))), lw_okq q
  exact List.forall_mem_append.mpr ⟨lw_r1, List.forall_mem_append.mpr ⟨lw_r2, List.forall_mem_append.mpr ⟨lw_r3, List.forall_mem_append.mpr ⟨lw_r4, List.forall_mem_append.mpr ⟨lw_r5, lw_r6⟩⟩⟩⟩⟩
end
section
def RX0 : String := "OakCourt$Acts"
def TX0 : u_T := fun k => match k with
  | 0 => ("OakCourt$Acts", "ran", "I", false)
  | 1 => ("OakCourt$Acts", "bodies", "[I", true)
  | 2 => ("OakCourt$Acts", "parted", "Z", false)
  | 3 => ("OakCourt$Acts", "kind", "I", false)
  | 4 => ("OakCourt$Acts", "n", "I", false)
  | _ => ("OakCourt$Acts", "a", "I", false)
def tyX0 : Nat → FieldType := fun k => match k with
  | 0 => .int
  | 1 => .array .int
  | 2 => .boolean
  | 3 => .int
  | 4 => .int
  | _ => .int
abbrev wsX00 : List Cond := u_ws RX0 TX0 6
theorem nmX0 : ∀ a, a < 6 → ∀ b, b < 6 → a ≠ b → (TX0 a).2.1 ≠ (TX0 b).2.1 := by decide +kernel
theorem tyX0_ok : ∀ k, k < 6 → parseFieldDescriptor (TX0 k).2.2.1 = some (tyX0 k) := by decide +kernel
abbrev cX0_init : ByteArray := prog_2_method_1_code
def yX0_init : MethodName := ⟨RX0, "<init>", "()V"⟩
abbrev cX0_take : ByteArray := prog_2_method_2_code
def yX0_take : MethodName := ⟨RX0, "take", "(III)V"⟩
abbrev cX0_begin : ByteArray := prog_2_method_3_code
def yX0_begin : MethodName := ⟨RX0, "begin", "(I)V"⟩
abbrev cX0_sways : ByteArray := prog_2_method_4_code
def yX0_sways : MethodName := ⟨RX0, "sways", "(I)I"⟩
abbrev cX0_bends : ByteArray := prog_2_method_5_code
def yX0_bends : MethodName := ⟨RX0, "bends", "(I)I"⟩
abbrev cX0_shares : ByteArray := prog_2_method_6_code
def yX0_shares : MethodName := ⟨RX0, "shares", "(I)I"⟩
abbrev cX0_tells : ByteArray := prog_2_method_7_code
def yX0_tells : MethodName := ⟨RX0, "tells", "(I)I"⟩
abbrev cX0_plainSways : ByteArray := prog_2_method_8_code
def yX0_plainSways : MethodName := ⟨RX0, "plainSways", "(I)I"⟩
abbrev cX0_plainBends : ByteArray := prog_2_method_9_code
def yX0_plainBends : MethodName := ⟨RX0, "plainBends", "(I)I"⟩
abbrev cX0_proppedShares : ByteArray := prog_2_method_10_code
def yX0_proppedShares : MethodName := ⟨RX0, "proppedShares", "(I)I"⟩
abbrev cX0_plainShares : ByteArray := prog_2_method_11_code
def yX0_plainShares : MethodName := ⟨RX0, "plainShares", "(I)I"⟩
abbrev cX0_plainTells : ByteArray := prog_2_method_12_code
def yX0_plainTells : MethodName := ⟨RX0, "plainTells", "(I)I"⟩
def RX1 : String := "OakCourt$Boughs"
def TX1 : u_T := fun k => match k with
  | 0 => ("OakCourt$Boughs", "count", "I", false)
  | 1 => ("OakCourt$Boughs", "kinds", "[I", true)
  | 2 => ("OakCourt$Boughs", "ons", "[I", true)
  | 3 => ("OakCourt$Boughs", "lengths", "[I", true)
  | 4 => ("OakCourt$Boughs", "holds", "[I", true)
  | 5 => ("OakCourt$Boughs", "paths", "[I", true)
  | 6 => ("OakCourt$Boughs", "broken", "I", false)
  | 7 => ("OakCourt$Boughs", "sap", "I", false)
  | 8 => ("OakCourt$Boughs", "wind", "I", false)
  | _ => ("OakCourt$Boughs", "told", "LOakCourt$Rules;", true)
def tyX1 : Nat → FieldType := fun k => match k with
  | 0 => .int
  | 1 => .array .int
  | 2 => .array .int
  | 3 => .array .int
  | 4 => .array .int
  | 5 => .array .int
  | 6 => .int
  | 7 => .int
  | 8 => .int
  | _ => .object "OakCourt$Rules"
abbrev wsX10 : List Cond := u_ws RX1 TX1 10
theorem nmX1 : ∀ a, a < 10 → ∀ b, b < 10 → a ≠ b → (TX1 a).2.1 ≠ (TX1 b).2.1 := by decide +kernel
theorem tyX1_ok : ∀ k, k < 10 → parseFieldDescriptor (TX1 k).2.2.1 = some (tyX1 k) := by decide +kernel
abbrev cX1_init : ByteArray := prog_3_method_1_code
def yX1_init : MethodName := ⟨RX1, "<init>", "()V"⟩
abbrev cX1_copyFrom : ByteArray := prog_3_method_2_code
def yX1_copyFrom : MethodName := ⟨RX1, "copyFrom", "(LOakCourt$Boughs;)V"⟩
abbrev cX1_grow : ByteArray := prog_3_method_3_code
def yX1_grow : MethodName := ⟨RX1, "grow", "(IIII)I"⟩
abbrev cX1_isThere : ByteArray := prog_3_method_4_code
def yX1_isThere : MethodName := ⟨RX1, "isThere", "(I)Z"⟩
abbrev cX1_isWhole : ByteArray := prog_3_method_5_code
def yX1_isWhole : MethodName := ⟨RX1, "isWhole", "(I)Z"⟩
abbrev cX1_isAbove : ByteArray := prog_3_method_6_code
def yX1_isAbove : MethodName := ⟨RX1, "isAbove", "(II)Z"⟩
abbrev cX1_holdsNow : ByteArray := prog_3_method_7_code
def yX1_holdsNow : MethodName := ⟨RX1, "holdsNow", "(I)I"⟩
def RX2 : String := "OakCourt$Host"
def TX2 : u_T := fun k => match k with
  | 0 => ("OakCourt$Host", "sorts", "[I", true)
  | 1 => ("OakCourt$Host", "sizes", "[I", true)
  | 2 => ("OakCourt$Host", "items", "[[J", true)
  | 3 => ("OakCourt$Host", "held", "[I", true)
  | 4 => ("OakCourt$Host", "numbers", "[I", true)
  | _ => ("OakCourt$Host", "rowSorts", "[I", true)
def tyX2 : Nat → FieldType := fun k => match k with
  | 0 => .array .int
  | 1 => .array .int
  | 2 => .array (.array .long)
  | 3 => .array .int
  | 4 => .array .int
  | _ => .array .int
abbrev wsX20 : List Cond := u_ws RX2 TX2 6
theorem nmX2 : ∀ a, a < 6 → ∀ b, b < 6 → a ≠ b → (TX2 a).2.1 ≠ (TX2 b).2.1 := by decide +kernel
theorem tyX2_ok : ∀ k, k < 6 → parseFieldDescriptor (TX2 k).2.2.1 = some (tyX2 k) := by decide +kernel
abbrev cX2_init : ByteArray := prog_4_method_1_code
def yX2_init : MethodName := ⟨RX2, "<init>", "()V"⟩
abbrev cX2_lay : ByteArray := prog_4_method_2_code
def yX2_lay : MethodName := ⟨RX2, "lay", "(III)V"⟩
abbrev cX2_refusalOf : ByteArray := prog_4_method_3_code
def yX2_refusalOf : MethodName := ⟨RX2, "refusalOf", "(II)I"⟩
abbrev cX2_hasItem : ByteArray := prog_4_method_4_code
def yX2_hasItem : MethodName := ⟨RX2, "hasItem", "(II)Z"⟩
abbrev cX2_shelveBough : ByteArray := prog_4_method_5_code
def yX2_shelveBough : MethodName := ⟨RX2, "shelveBough", "(II)V"⟩
abbrev cX2_shelveRow : ByteArray := prog_4_method_6_code
def yX2_shelveRow : MethodName := ⟨RX2, "shelveRow", "(II)V"⟩
abbrev cX2_clear : ByteArray := prog_4_method_7_code
def yX2_clear : MethodName := ⟨RX2, "clear", "(I)V"⟩
abbrev cX2_isBough : ByteArray := prog_4_method_8_code
def yX2_isBough : MethodName := ⟨RX2, "isBough", "(I)Z"⟩
abbrev cX2_isRow : ByteArray := prog_4_method_9_code
def yX2_isRow : MethodName := ⟨RX2, "isRow", "(I)Z"⟩
def RX3 : String := "OakCourt$Oak"
def TX3 : u_T := fun k => match k with
  | 0 => ("OakCourt$Oak", "boughs", "LOakCourt$Boughs;", true)
  | 1 => ("OakCourt$Oak", "people", "LOakCourt$People;", true)
  | 2 => ("OakCourt$Oak", "reports", "LOakCourt$Reports;", true)
  | 3 => ("OakCourt$Oak", "z", "I", false)
  | _ => ("OakCourt$Oak", "spare", "[I", true)
def tyX3 : Nat → FieldType := fun k => match k with
  | 0 => .object "OakCourt$Boughs"
  | 1 => .object "OakCourt$People"
  | 2 => .object "OakCourt$Reports"
  | 3 => .int
  | _ => .array .int
abbrev wsX30 : List Cond := u_ws RX3 TX3 5
theorem nmX3 : ∀ a, a < 5 → ∀ b, b < 5 → a ≠ b → (TX3 a).2.1 ≠ (TX3 b).2.1 := by decide +kernel
theorem tyX3_ok : ∀ k, k < 5 → parseFieldDescriptor (TX3 k).2.2.1 = some (tyX3 k) := by decide +kernel
abbrev cX3_init : ByteArray := prog_5_method_1_code
def yX3_init : MethodName := ⟨RX3, "<init>", "()V"⟩
abbrev cX3_copyFrom : ByteArray := prog_5_method_2_code
def yX3_copyFrom : MethodName := ⟨RX3, "copyFrom", "(LOakCourt$Oak;)V"⟩
abbrev cX3_bears : ByteArray := prog_5_method_3_code
def yX3_bears : MethodName := ⟨RX3, "bears", "(I)I"⟩
abbrev cX3_measure : ByteArray := prog_5_method_4_code
def yX3_measure : MethodName := ⟨RX3, "measure", "()V"⟩
abbrev cX3_load : ByteArray := prog_5_method_5_code
def yX3_load : MethodName := ⟨RX3, "load", "(II)V"⟩
abbrev cX3_cracking : ByteArray := prog_5_method_6_code
def yX3_cracking : MethodName := ⟨RX3, "cracking", "()I"⟩
abbrev cX3_stateOf : ByteArray := prog_5_method_7_code
def yX3_stateOf : MethodName := ⟨RX3, "stateOf", "(I)I"⟩
abbrev cX3_leastSpare : ByteArray := prog_5_method_8_code
def yX3_leastSpare : MethodName := ⟨RX3, "leastSpare", "()I"⟩
abbrev cX3_roomOn : ByteArray := prog_5_method_9_code
def yX3_roomOn : MethodName := ⟨RX3, "roomOn", "(I)I"⟩
abbrev cX3_breakDown : ByteArray := prog_5_method_10_code
def yX3_breakDown : MethodName := ⟨RX3, "breakDown", "()I"⟩
abbrev cX3_breakOff : ByteArray := prog_5_method_11_code
def yX3_breakOff : MethodName := ⟨RX3, "breakOff", "(I)I"⟩
def RX4 : String := "OakCourt$People"
def TX4 : u_T := fun k => match k with
  | 0 => ("OakCourt$People", "count", "I", false)
  | 1 => ("OakCourt$People", "weights", "[I", true)
  | 2 => ("OakCourt$People", "sides", "[I", true)
  | _ => ("OakCourt$People", "seats", "[I", true)
def tyX4 : Nat → FieldType := fun k => match k with
  | 0 => .int
  | 1 => .array .int
  | 2 => .array .int
  | _ => .array .int
abbrev wsX40 : List Cond := u_ws RX4 TX4 4
theorem nmX4 : ∀ a, a < 4 → ∀ b, b < 4 → a ≠ b → (TX4 a).2.1 ≠ (TX4 b).2.1 := by decide +kernel
theorem tyX4_ok : ∀ k, k < 4 → parseFieldDescriptor (TX4 k).2.2.1 = some (tyX4 k) := by decide +kernel
abbrev cX4_init : ByteArray := prog_6_method_1_code
def yX4_init : MethodName := ⟨RX4, "<init>", "()V"⟩
abbrev cX4_copyFrom : ByteArray := prog_6_method_2_code
def yX4_copyFrom : MethodName := ⟨RX4, "copyFrom", "(LOakCourt$People;)V"⟩
abbrev cX4_join : ByteArray := prog_6_method_3_code
def yX4_join : MethodName := ⟨RX4, "join", "(II)I"⟩
abbrev cX4_isThere : ByteArray := prog_6_method_4_code
def yX4_isThere : MethodName := ⟨RX4, "isThere", "(I)Z"⟩
abbrev cX4_seatedWeight : ByteArray := prog_6_method_5_code
def yX4_seatedWeight : MethodName := ⟨RX4, "seatedWeight", "(I)I"⟩
abbrev cX4_firstUnseated : ByteArray := prog_6_method_6_code
def yX4_firstUnseated : MethodName := ⟨RX4, "firstUnseated", "(I)I"⟩
def RX5 : String := "OakCourt$Reports"
def TX5 : u_T := fun k => match k with
  | 0 => ("OakCourt$Reports", "count", "I", false)
  | 1 => ("OakCourt$Reports", "boughs", "[I", true)
  | 2 => ("OakCourt$Reports", "cracked", "[I", true)
  | 3 => ("OakCourt$Reports", "least", "I", false)
  | _ => ("OakCourt$Reports", "greatest", "I", false)
def tyX5 : Nat → FieldType := fun k => match k with
  | 0 => .int
  | 1 => .array .int
  | 2 => .array .int
  | 3 => .int
  | _ => .int
abbrev wsX50 : List Cond := u_ws RX5 TX5 5
theorem nmX5 : ∀ a, a < 5 → ∀ b, b < 5 → a ≠ b → (TX5 a).2.1 ≠ (TX5 b).2.1 := by decide +kernel
theorem tyX5_ok : ∀ k, k < 5 → parseFieldDescriptor (TX5 k).2.2.1 = some (tyX5 k) := by decide +kernel
abbrev cX5_init : ByteArray := prog_7_method_1_code
def yX5_init : MethodName := ⟨RX5, "<init>", "()V"⟩
abbrev cX5_copyFrom : ByteArray := prog_7_method_2_code
def yX5_copyFrom : MethodName := ⟨RX5, "copyFrom", "(LOakCourt$Reports;)V"⟩
abbrev cX5_note : ByteArray := prog_7_method_3_code
def yX5_note : MethodName := ⟨RX5, "note", "(II)I"⟩
abbrev cX5_fit : ByteArray := prog_7_method_4_code
def yX5_fit : MethodName := ⟨RX5, "fit", "(LOakCourt$Oak;I)V"⟩
abbrev cX5_narrow : ByteArray := prog_7_method_5_code
def yX5_narrow : MethodName := ⟨RX5, "narrow", "(LOakCourt$Oak;I)V"⟩
abbrev cX5_fitting : ByteArray := prog_7_method_6_code
def yX5_fitting : MethodName := ⟨RX5, "fitting", "()I"⟩
def RX6 : String := "OakCourt$Rows"
def TX6 : u_T := fun k => match k with
  | 0 => ("OakCourt$Rows", "count", "I", false)
  | _ => ("OakCourt$Rows", "cells", "[[I", true)
def tyX6 : Nat → FieldType := fun k => match k with
  | 0 => .int
  | _ => .array (.array .int)
abbrev wsX60 : List Cond := u_ws RX6 TX6 2
theorem nmX6 : ∀ a, a < 2 → ∀ b, b < 2 → a ≠ b → (TX6 a).2.1 ≠ (TX6 b).2.1 := by decide +kernel
theorem tyX6_ok : ∀ k, k < 2 → parseFieldDescriptor (TX6 k).2.2.1 = some (tyX6 k) := by decide +kernel
abbrev cX6_init : ByteArray := prog_8_method_1_code
def yX6_init : MethodName := ⟨RX6, "<init>", "()V"⟩
abbrev cX6_has : ByteArray := prog_8_method_2_code
def yX6_has : MethodName := ⟨RX6, "has", "(II)Z"⟩
abbrev cX6_tell : ByteArray := prog_8_method_3_code
def yX6_tell : MethodName := ⟨RX6, "tell", "(LOakCourt$Oak;I)V"⟩
abbrev cX6_firstWrong : ByteArray := prog_8_method_4_code
def yX6_firstWrong : MethodName := ⟨RX6, "firstWrong", "(LOakCourt$Oak;)I"⟩
def RX7 : String := "OakCourt$RuleReader"
def TX7 : u_T := fun k => match k with
  | 0 => ("OakCourt$RuleReader", "told", "LOakCourt$Rules;", true)
  | 1 => ("OakCourt$RuleReader", "due", "I", false)
  | 2 => ("OakCourt$RuleReader", "sign", "I", false)
  | 3 => ("OakCourt$RuleReader", "open", "I", false)
  | 4 => ("OakCourt$RuleReader", "steps", "I", false)
  | 5 => ("OakCourt$RuleReader", "waiting", "[I", true)
  | _ => ("OakCourt$RuleReader", "waits", "I", false)
def tyX7 : Nat → FieldType := fun k => match k with
  | 0 => .object "OakCourt$Rules"
  | 1 => .int
  | 2 => .int
  | 3 => .int
  | 4 => .int
  | 5 => .array .int
  | _ => .int
abbrev wsX70 : List Cond := u_ws RX7 TX7 7
theorem nmX7 : ∀ a, a < 7 → ∀ b, b < 7 → a ≠ b → (TX7 a).2.1 ≠ (TX7 b).2.1 := by decide +kernel
theorem tyX7_ok : ∀ k, k < 7 → parseFieldDescriptor (TX7 k).2.2.1 = some (tyX7 k) := by decide +kernel
abbrev cX7_init : ByteArray := prog_9_method_1_code
def yX7_init : MethodName := ⟨RX7, "<init>", "()V"⟩
abbrev cX7_faultOf : ByteArray := prog_9_method_2_code
def yX7_faultOf : MethodName := ⟨RX7, "faultOf", "(LOakCourt$Tape;)I"⟩
abbrev cX7_takes : ByteArray := prog_9_method_3_code
def yX7_takes : MethodName := ⟨RX7, "takes", "(I)Z"⟩
abbrev cX7_takesKind : ByteArray := prog_9_method_4_code
def yX7_takesKind : MethodName := ⟨RX7, "takesKind", "(I)Z"⟩
abbrev cX7_takesIf : ByteArray := prog_9_method_5_code
def yX7_takesIf : MethodName := ⟨RX7, "takesIf", "(I)Z"⟩
abbrev cX7_takesDeed : ByteArray := prog_9_method_6_code
def yX7_takesDeed : MethodName := ⟨RX7, "takesDeed", "(I)Z"⟩
abbrev cX7_takesAmount : ByteArray := prog_9_method_7_code
def yX7_takesAmount : MethodName := ⟨RX7, "takesAmount", "(I)Z"⟩
abbrev cX7_takesEnd : ByteArray := prog_9_method_8_code
def yX7_takesEnd : MethodName := ⟨RX7, "takesEnd", "(I)Z"⟩
abbrev cX7_takesOne : ByteArray := prog_9_method_9_code
def yX7_takesOne : MethodName := ⟨RX7, "takesOne", "(I)Z"⟩
abbrev cX7_takesSign : ByteArray := prog_9_method_10_code
def yX7_takesSign : MethodName := ⟨RX7, "takesSign", "(I)Z"⟩
abbrev cX7_takesValue : ByteArray := prog_9_method_11_code
def yX7_takesValue : MethodName := ⟨RX7, "takesValue", "(I)Z"⟩
abbrev cX7_takesJoint : ByteArray := prog_9_method_12_code
def yX7_takesJoint : MethodName := ⟨RX7, "takesJoint", "(I)Z"⟩
abbrev cX7_isValue : ByteArray := prog_9_method_13_code
def yX7_isValue : MethodName := ⟨RX7, "isValue", "(I)Z"⟩
abbrev cX7_await : ByteArray := prog_9_method_14_code
def yX7_await : MethodName := ⟨RX7, "await", "(I)V"⟩
abbrev cX7_settle : ByteArray := prog_9_method_15_code
def yX7_settle : MethodName := ⟨RX7, "settle", "(I)V"⟩
abbrev cX7_step : ByteArray := prog_9_method_16_code
def yX7_step : MethodName := ⟨RX7, "step", "(I)V"⟩
def RX8 : String := "OakCourt$Rules"
def TX8 : u_T := fun k => match k with
  | 0 => ("OakCourt$Rules", "count", "I", false)
  | 1 => ("OakCourt$Rules", "kinds", "[I", true)
  | 2 => ("OakCourt$Rules", "deeds", "[I", true)
  | 3 => ("OakCourt$Rules", "amounts", "[I", true)
  | 4 => ("OakCourt$Rules", "ends", "[I", true)
  | 5 => ("OakCourt$Rules", "code", "[I", true)
  | 6 => ("OakCourt$Rules", "facts", "[I", true)
  | _ => ("OakCourt$Rules", "stack", "[I", true)
def tyX8 : Nat → FieldType := fun k => match k with
  | 0 => .int
  | 1 => .array .int
  | 2 => .array .int
  | 3 => .array .int
  | 4 => .array .int
  | 5 => .array .int
  | 6 => .array .int
  | _ => .array .int
abbrev wsX80 : List Cond := u_ws RX8 TX8 8
theorem nmX8 : ∀ a, a < 8 → ∀ b, b < 8 → a ≠ b → (TX8 a).2.1 ≠ (TX8 b).2.1 := by decide +kernel
theorem tyX8_ok : ∀ k, k < 8 → parseFieldDescriptor (TX8 k).2.2.1 = some (tyX8 k) := by decide +kernel
abbrev cX8_init : ByteArray := prog_10_method_1_code
def yX8_init : MethodName := ⟨RX8, "<init>", "()V"⟩
abbrev cX8_copyFrom : ByteArray := prog_10_method_2_code
def yX8_copyFrom : MethodName := ⟨RX8, "copyFrom", "(LOakCourt$Rules;)V"⟩
abbrev cX8_setFacts : ByteArray := prog_10_method_3_code
def yX8_setFacts : MethodName := ⟨RX8, "setFacts", "(IIIII)V"⟩
abbrev cX8_changed : ByteArray := prog_10_method_4_code
def yX8_changed : MethodName := ⟨RX8, "changed", "(I)I"⟩
abbrev cX8_changedBy : ByteArray := prog_10_method_5_code
def yX8_changedBy : MethodName := ⟨RX8, "changedBy", "(II)I"⟩
abbrev cX8_isSo : ByteArray := prog_10_method_6_code
def yX8_isSo : MethodName := ⟨RX8, "isSo", "(II)Z"⟩
abbrev cX8_joined : ByteArray := prog_10_method_7_code
def yX8_joined : MethodName := ⟨RX8, "joined", "(III)Z"⟩
def RX9 : String := "OakCourt$Seating"
def TX9 : u_T := fun k => match k with
  | 0 => ("OakCourt$Seating", "count", "I", false)
  | 1 => ("OakCourt$Seating", "members", "[I", true)
  | 2 => ("OakCourt$Seating", "seats", "[I", true)
  | _ => ("OakCourt$Seating", "oak", "LOakCourt$Oak;", true)
def tyX9 : Nat → FieldType := fun k => match k with
  | 0 => .int
  | 1 => .array .int
  | 2 => .array .int
  | _ => .object "OakCourt$Oak"
abbrev wsX90 : List Cond := u_ws RX9 TX9 4
theorem nmX9 : ∀ a, a < 4 → ∀ b, b < 4 → a ≠ b → (TX9 a).2.1 ≠ (TX9 b).2.1 := by decide +kernel
theorem tyX9_ok : ∀ k, k < 4 → parseFieldDescriptor (TX9 k).2.2.1 = some (tyX9 k) := by decide +kernel
abbrev cX9_init : ByteArray := prog_11_method_1_code
def yX9_init : MethodName := ⟨RX9, "<init>", "()V"⟩
abbrev cX9_finds : ByteArray := prog_11_method_2_code
def yX9_finds : MethodName := ⟨RX9, "finds", "(LOakCourt$Oak;I)Z"⟩
abbrev cX9_seatsFrom : ByteArray := prog_11_method_3_code
def yX9_seatsFrom : MethodName := ⟨RX9, "seatsFrom", "(I)Z"⟩
abbrev cX9_gameValue : ByteArray := prog_11_method_4_code
def yX9_gameValue : MethodName := ⟨RX9, "gameValue", "(LOakCourt$Oak;II)I"⟩
abbrev cX9_firstMove : ByteArray := prog_11_method_5_code
def yX9_firstMove : MethodName := ⟨RX9, "firstMove", "(LOakCourt$Oak;II)I"⟩
abbrev cX9_valueOf : ByteArray := prog_11_method_6_code
def yX9_valueOf : MethodName := ⟨RX9, "valueOf", "(II)I"⟩
abbrev cX9_valueBehind : ByteArray := prog_11_method_7_code
def yX9_valueBehind : MethodName := ⟨RX9, "valueBehind", "(III)I"⟩
def RX10 : String := "OakCourt$Tape"
def TX10 : u_T := fun k => match k with
  | 0 => ("OakCourt$Tape", "count", "I", false)
  | _ => ("OakCourt$Tape", "bytes", "[I", true)
def tyX10 : Nat → FieldType := fun k => match k with
  | 0 => .int
  | _ => .array .int
abbrev wsX100 : List Cond := u_ws RX10 TX10 2
theorem nmX10 : ∀ a, a < 2 → ∀ b, b < 2 → a ≠ b → (TX10 a).2.1 ≠ (TX10 b).2.1 := by decide +kernel
theorem tyX10_ok : ∀ k, k < 2 → parseFieldDescriptor (TX10 k).2.2.1 = some (tyX10 k) := by decide +kernel
abbrev cX10_init : ByteArray := prog_12_method_1_code
def yX10_init : MethodName := ⟨RX10, "<init>", "()V"⟩
abbrev cX10_append : ByteArray := prog_12_method_2_code
def yX10_append : MethodName := ⟨RX10, "append", "(JI)V"⟩
abbrev cX10_isBlank : ByteArray := prog_12_method_3_code
def yX10_isBlank : MethodName := ⟨RX10, "isBlank", "(I)Z"⟩
abbrev cX10_endOfWord : ByteArray := prog_12_method_4_code
def yX10_endOfWord : MethodName := ⟨RX10, "endOfWord", "(I)I"⟩
abbrev cX10_word : ByteArray := prog_12_method_5_code
def yX10_word : MethodName := ⟨RX10, "word", "(II)I"⟩
abbrev cX10_numberWord : ByteArray := prog_12_method_6_code
def yX10_numberWord : MethodName := ⟨RX10, "numberWord", "(II)I"⟩
abbrev cX10_nameWord : ByteArray := prog_12_method_7_code
def yX10_nameWord : MethodName := ⟨RX10, "nameWord", "(II)I"⟩
abbrev cX10_isName : ByteArray := prog_12_method_8_code
def yX10_isName : MethodName := ⟨RX10, "isName", "(Ljava/lang/String;II)Z"⟩
abbrev cX10_isLetter : ByteArray := prog_12_method_9_code
def yX10_isLetter : MethodName := ⟨RX10, "isLetter", "(I)Z"⟩
abbrev cX10_isDigit : ByteArray := prog_12_method_10_code
def yX10_isDigit : MethodName := ⟨RX10, "isDigit", "(I)Z"⟩
def RX11 : String := "OakCourt"
def TX11 : u_T := fun k => match k with
  | 0 => ("OakCourt", "now", "LOakCourt$Oak;", true)
  | 1 => ("OakCourt", "tried", "LOakCourt$Oak;", true)
  | 2 => ("OakCourt", "kept", "LOakCourt$Oak;", true)
  | 3 => ("OakCourt", "isKept", "Z", false)
  | 4 => ("OakCourt", "tape", "LOakCourt$Tape;", true)
  | 5 => ("OakCourt", "reader", "LOakCourt$RuleReader;", true)
  | 6 => ("OakCourt", "seating", "LOakCourt$Seating;", true)
  | 7 => ("OakCourt", "rows", "LOakCourt$Rows;", true)
  | 8 => ("OakCourt", "host", "LOakCourt$Host;", true)
  | _ => ("OakCourt", "acts", "LOakCourt$Acts;", true)
def tyX11 : Nat → FieldType := fun k => match k with
  | 0 => .object "OakCourt$Oak"
  | 1 => .object "OakCourt$Oak"
  | 2 => .object "OakCourt$Oak"
  | 3 => .boolean
  | 4 => .object "OakCourt$Tape"
  | 5 => .object "OakCourt$RuleReader"
  | 6 => .object "OakCourt$Seating"
  | 7 => .object "OakCourt$Rows"
  | 8 => .object "OakCourt$Host"
  | _ => .object "OakCourt$Acts"
abbrev wsX110 : List Cond := u_ws RX11 TX11 10
theorem nmX11 : ∀ a, a < 10 → ∀ b, b < 10 → a ≠ b → (TX11 a).2.1 ≠ (TX11 b).2.1 := by decide +kernel
theorem tyX11_ok : ∀ k, k < 10 → parseFieldDescriptor (TX11 k).2.2.1 = some (tyX11 k) := by decide +kernel
abbrev cX11_init : ByteArray := prog_1_method_1_code
def yX11_init : MethodName := ⟨RX11, "<init>", "()V"⟩
abbrev cX11_bough : ByteArray := prog_1_method_2_code
def yX11_bough : MethodName := ⟨RX11, "bough", "(IIII)I"⟩
abbrev cX11_boughOf : ByteArray := prog_1_method_3_code
def yX11_boughOf : MethodName := ⟨RX11, "boughOf", "(II)I"⟩
abbrev cX11_change : ByteArray := prog_1_method_4_code
def yX11_change : MethodName := ⟨RX11, "change", "(III)I"⟩
abbrev cX11_graft : ByteArray := prog_1_method_5_code
def yX11_graft : MethodName := ⟨RX11, "graft", "(II)I"⟩
abbrev cX11_weather : ByteArray := prog_1_method_6_code
def yX11_weather : MethodName := ⟨RX11, "weather", "(II)I"⟩
abbrev cX11_feed : ByteArray := prog_1_method_7_code
def yX11_feed : MethodName := ⟨RX11, "feed", "(JI)I"⟩
abbrev cX11_rules : ByteArray := prog_1_method_8_code
def yX11_rules : MethodName := ⟨RX11, "rules", "()I"⟩
abbrev cX11_person : ByteArray := prog_1_method_9_code
def yX11_person : MethodName := ⟨RX11, "person", "(II)I"⟩
abbrev cX11_personOf : ByteArray := prog_1_method_10_code
def yX11_personOf : MethodName := ⟨RX11, "personOf", "(II)I"⟩
abbrev cX11_sit : ByteArray := prog_1_method_11_code
def yX11_sit : MethodName := ⟨RX11, "sit", "(II)I"⟩
abbrev cX11_down : ByteArray := prog_1_method_12_code
def yX11_down : MethodName := ⟨RX11, "down", "(I)I"⟩
abbrev cX11_cracks : ByteArray := prog_1_method_13_code
def yX11_cracks : MethodName := ⟨RX11, "cracks", "()I"⟩
abbrev cX11_worst : ByteArray := prog_1_method_14_code
def yX11_worst : MethodName := ⟨RX11, "worst", "()I"⟩
abbrev cX11_fall : ByteArray := prog_1_method_15_code
def yX11_fall : MethodName := ⟨RX11, "fall", "()I"⟩
abbrev cX11_would : ByteArray := prog_1_method_16_code
def yX11_would : MethodName := ⟨RX11, "would", "()I"⟩
abbrev cX11_standing : ByteArray := prog_1_method_17_code
def yX11_standing : MethodName := ⟨RX11, "standing", "(I)I"⟩
abbrev cX11_verdict : ByteArray := prog_1_method_18_code
def yX11_verdict : MethodName := ⟨RX11, "verdict", "()I"⟩
abbrev cX11_room : ByteArray := prog_1_method_19_code
def yX11_room : MethodName := ⟨RX11, "room", "(I)I"⟩
abbrev cX11_best : ByteArray := prog_1_method_20_code
def yX11_best : MethodName := ⟨RX11, "best", "(I)I"⟩
abbrev cX11_safe : ByteArray := prog_1_method_21_code
def yX11_safe : MethodName := ⟨RX11, "safe", "(I)I"⟩
abbrev cX11_prop : ByteArray := prog_1_method_22_code
def yX11_prop : MethodName := ⟨RX11, "prop", "()I"⟩
abbrev cX11_windFor : ByteArray := prog_1_method_23_code
def yX11_windFor : MethodName := ⟨RX11, "windFor", "()I"⟩
abbrev cX11_sapFor : ByteArray := prog_1_method_24_code
def yX11_sapFor : MethodName := ⟨RX11, "sapFor", "()I"⟩
abbrev cX11_tryWithout : ByteArray := prog_1_method_25_code
def yX11_tryWithout : MethodName := ⟨RX11, "tryWithout", "(I)V"⟩
abbrev cX11_seatedIfPropped : ByteArray := prog_1_method_26_code
def yX11_seatedIfPropped : MethodName := ⟨RX11, "seatedIfPropped", "(I)I"⟩
abbrev cX11_crackingWinds : ByteArray := prog_1_method_27_code
def yX11_crackingWinds : MethodName := ⟨RX11, "crackingWinds", "()I"⟩
abbrev cX11_seat : ByteArray := prog_1_method_28_code
def yX11_seat : MethodName := ⟨RX11, "seat", "(II)I"⟩
abbrev cX11_seatAll : ByteArray := prog_1_method_29_code
def yX11_seatAll : MethodName := ⟨RX11, "seatAll", "(I)I"⟩
abbrev cX11_game : ByteArray := prog_1_method_30_code
def yX11_game : MethodName := ⟨RX11, "game", "(II)I"⟩
abbrev cX11_move : ByteArray := prog_1_method_31_code
def yX11_move : MethodName := ⟨RX11, "move", "(II)I"⟩
abbrev cX11_isSeatable : ByteArray := prog_1_method_32_code
def yX11_isSeatable : MethodName := ⟨RX11, "isSeatable", "(I)Z"⟩
abbrev cX11_report : ByteArray := prog_1_method_33_code
def yX11_report : MethodName := ⟨RX11, "report", "(II)I"⟩
abbrev cX11_forget : ByteArray := prog_1_method_34_code
def yX11_forget : MethodName := ⟨RX11, "forget", "()I"⟩
abbrev cX11_span : ByteArray := prog_1_method_35_code
def yX11_span : MethodName := ⟨RX11, "span", "(I)I"⟩
abbrev cX11_liar : ByteArray := prog_1_method_36_code
def yX11_liar : MethodName := ⟨RX11, "liar", "()I"⟩
abbrev cX11_seed : ByteArray := prog_1_method_37_code
def yX11_seed : MethodName := ⟨RX11, "seed", "(I)I"⟩
abbrev cX11_draw : ByteArray := prog_1_method_38_code
def yX11_draw : MethodName := ⟨RX11, "draw", "()I"⟩
abbrev cX11_often : ByteArray := prog_1_method_39_code
def yX11_often : MethodName := ⟨RX11, "often", "(I)I"⟩
abbrev cX11_drawnFrom : ByteArray := prog_1_method_40_code
def yX11_drawnFrom : MethodName := ⟨RX11, "drawnFrom", "(I)I"⟩
abbrev cX11_windOf : ByteArray := prog_1_method_41_code
def yX11_windOf : MethodName := ⟨RX11, "windOf", "(I)I"⟩
abbrev cX11_prove : ByteArray := prog_1_method_42_code
def yX11_prove : MethodName := ⟨RX11, "prove", "(I)I"⟩
abbrev cX11_row : ByteArray := prog_1_method_43_code
def yX11_row : MethodName := ⟨RX11, "row", "(II)I"⟩
abbrev cX11_alterRow : ByteArray := prog_1_method_44_code
def yX11_alterRow : MethodName := ⟨RX11, "alterRow", "(III)I"⟩
abbrev cX11_judge : ByteArray := prog_1_method_45_code
def yX11_judge : MethodName := ⟨RX11, "judge", "()I"⟩
abbrev cX11_sheet : ByteArray := prog_1_method_46_code
def yX11_sheet : MethodName := ⟨RX11, "sheet", "(III)I"⟩
abbrev cX11_write : ByteArray := prog_1_method_47_code
def yX11_write : MethodName := ⟨RX11, "write", "(III)I"⟩
abbrev cX11_item : ByteArray := prog_1_method_48_code
def yX11_item : MethodName := ⟨RX11, "item", "(III)I"⟩
abbrev cX11_climbs : ByteArray := prog_1_method_49_code
def yX11_climbs : MethodName := ⟨RX11, "climbs", "(IIII)I"⟩
abbrev cX11_shelf : ByteArray := prog_1_method_50_code
def yX11_shelf : MethodName := ⟨RX11, "shelf", "(III)I"⟩
abbrev cX11_taken : ByteArray := prog_1_method_51_code
def yX11_taken : MethodName := ⟨RX11, "taken", "(II)I"⟩
abbrev cX11_act : ByteArray := prog_1_method_52_code
def yX11_act : MethodName := ⟨RX11, "act", "(III)I"⟩
abbrev cX11_trace : ByteArray := prog_1_method_53_code
def yX11_trace : MethodName := ⟨RX11, "trace", "(I)I"⟩
abbrev cX11_many : ByteArray := prog_1_method_54_code
def yX11_many : MethodName := ⟨RX11, "many", "(I)I"⟩
abbrev cX11_boughOn : ByteArray := prog_1_method_55_code
def yX11_boughOn : MethodName := ⟨RX11, "boughOn", "(I)I"⟩
abbrev cX11_narrowed : ByteArray := prog_1_method_56_code
def yX11_narrowed : MethodName := ⟨RX11, "narrowed", "(II)J"⟩
abbrev cX11_keep : ByteArray := prog_1_method_57_code
def yX11_keep : MethodName := ⟨RX11, "keep", "()I"⟩
abbrev cX11_again : ByteArray := prog_1_method_58_code
def yX11_again : MethodName := ⟨RX11, "again", "()I"⟩
abbrev cX11_isWithin : ByteArray := prog_1_method_59_code
def yX11_isWithin : MethodName := ⟨RX11, "isWithin", "(III)Z"⟩
abbrev cX11_isBoughKind : ByteArray := prog_1_method_60_code
def yX11_isBoughKind : MethodName := ⟨RX11, "isBoughKind", "(I)Z"⟩
abbrev cX11_isSide : ByteArray := prog_1_method_61_code
def yX11_isSide : MethodName := ⟨RX11, "isSide", "(I)Z"⟩
abbrev cX11_isPlace : ByteArray := prog_1_method_62_code
def yX11_isPlace : MethodName := ⟨RX11, "isPlace", "(I)Z"⟩
abbrev cX11_isIn : ByteArray := prog_1_method_63_code
def yX11_isIn : MethodName := ⟨RX11, "isIn", "(II)Z"⟩
abbrev cX11_isKindOf : ByteArray := prog_1_method_64_code
def yX11_isKindOf : MethodName := ⟨RX11, "isKindOf", "(II)Z"⟩
abbrev cX11_replaced : ByteArray := prog_1_method_65_code
def yX11_replaced : MethodName := ⟨RX11, "replaced", "([III)I"⟩
abbrev cX11_copyRow : ByteArray := prog_1_method_66_code
def yX11_copyRow : MethodName := ⟨RX11, "copyRow", "([I[I)V"⟩
def RX12 : String := "OakCourtModel"
def TX12 : u_T := fun k => match k with
  | 0 => ("OakCourtModel", "s", "[I", true)
  | 1 => ("OakCourtModel", "kept", "[I", true)
  | 2 => ("OakCourtModel", "other", "[I", true)
  | 3 => ("OakCourtModel", "isKept", "Z", false)
  | 4 => ("OakCourtModel", "stack", "[I", true)
  | 5 => ("OakCourtModel", "holds", "[I", true)
  | 6 => ("OakCourtModel", "bears", "[I", true)
  | 7 => ("OakCourtModel", "stands", "[I", true)
  | 8 => ("OakCourtModel", "party", "[I", true)
  | 9 => ("OakCourtModel", "sat", "[I", true)
  | 10 => ("OakCourtModel", "places", "[I", true)
  | 11 => ("OakCourtModel", "partyMany", "I", false)
  | 12 => ("OakCourtModel", "fitMany", "I", false)
  | 13 => ("OakCourtModel", "fitFirst", "I", false)
  | 14 => ("OakCourtModel", "fitLast", "I", false)
  | 15 => ("OakCourtModel", "rows", "[I", true)
  | 16 => ("OakCourtModel", "rowMany", "I", false)
  | 17 => ("OakCourtModel", "tape", "[I", true)
  | 18 => ("OakCourtModel", "taped", "I", false)
  | 19 => ("OakCourtModel", "from", "I", false)
  | 20 => ("OakCourtModel", "to", "I", false)
  | 21 => ("OakCourtModel", "value", "I", false)
  | 22 => ("OakCourtModel", "open", "I", false)
  | 23 => ("OakCourtModel", "coded", "I", false)
  | 24 => ("OakCourtModel", "isWrong", "Z", false)
  | 25 => ("OakCourtModel", "sortOf", "[I", true)
  | 26 => ("OakCourtModel", "sizeOf", "[I", true)
  | 27 => ("OakCourtModel", "items", "[I", true)
  | 28 => ("OakCourtModel", "lies", "[I", true)
  | 29 => ("OakCourtModel", "liesNumber", "[I", true)
  | 30 => ("OakCourtModel", "liesSort", "[I", true)
  | 31 => ("OakCourtModel", "ran", "[I", true)
  | 32 => ("OakCourtModel", "bodies", "I", false)
  | 33 => ("OakCourtModel", "acting", "I", false)
  | 34 => ("OakCourtModel", "about", "I", false)
  | 35 => ("OakCourtModel", "kindActing", "I", false)
  | _ => ("OakCourtModel", "isParted", "Z", false)
def tyX12 : Nat → FieldType := fun k => match k with
  | 0 => .array .int
  | 1 => .array .int
  | 2 => .array .int
  | 3 => .boolean
  | 4 => .array .int
  | 5 => .array .int
  | 6 => .array .int
  | 7 => .array .int
  | 8 => .array .int
  | 9 => .array .int
  | 10 => .array .int
  | 11 => .int
  | 12 => .int
  | 13 => .int
  | 14 => .int
  | 15 => .array .int
  | 16 => .int
  | 17 => .array .int
  | 18 => .int
  | 19 => .int
  | 20 => .int
  | 21 => .int
  | 22 => .int
  | 23 => .int
  | 24 => .boolean
  | 25 => .array .int
  | 26 => .array .int
  | 27 => .array .int
  | 28 => .array .int
  | 29 => .array .int
  | 30 => .array .int
  | 31 => .array .int
  | 32 => .int
  | 33 => .int
  | 34 => .int
  | 35 => .int
  | _ => .boolean
abbrev wsX120 : List Cond := u_ws RX12 TX12 37
theorem nmX12 : ∀ a, a < 37 → ∀ b, b < 37 → a ≠ b → (TX12 a).2.1 ≠ (TX12 b).2.1 := by decide +kernel
theorem tyX12_ok : ∀ k, k < 37 → parseFieldDescriptor (TX12 k).2.2.1 = some (tyX12 k) := by decide +kernel
abbrev cX12_init : ByteArray := prog_14_method_1_code
def yX12_init : MethodName := ⟨RX12, "<init>", "()V"⟩
abbrev cX12_in : ByteArray := prog_14_method_2_code
def yX12_in : MethodName := ⟨RX12, "in", "(JJJ)Z"⟩
abbrev cX12_isBough : ByteArray := prog_14_method_3_code
def yX12_isBough : MethodName := ⟨RX12, "isBough", "(I)Z"⟩
abbrev cX12_isPerson : ByteArray := prog_14_method_4_code
def yX12_isPerson : MethodName := ⟨RX12, "isPerson", "(I)Z"⟩
abbrev cX12_has : ByteArray := prog_14_method_5_code
def yX12_has : MethodName := ⟨RX12, "has", "(II)Z"⟩
abbrev cX12_puts : ByteArray := prog_14_method_6_code
def yX12_puts : MethodName := ⟨RX12, "puts", "()V"⟩
abbrev cX12_putsBack : ByteArray := prog_14_method_7_code
def yX12_putsBack : MethodName := ⟨RX12, "putsBack", "()V"⟩
abbrev cX12_at : ByteArray := prog_14_method_8_code
def yX12_at : MethodName := ⟨RX12, "at", "(II)I"⟩
abbrev cX12_its : ByteArray := prog_14_method_9_code
def yX12_its : MethodName := ⟨RX12, "its", "(II)I"⟩
abbrev cX12_isBroken : ByteArray := prog_14_method_10_code
def yX12_isBroken : MethodName := ⟨RX12, "isBroken", "(I)Z"⟩
abbrev cX12_below : ByteArray := prog_14_method_11_code
def yX12_below : MethodName := ⟨RX12, "below", "(I)I"⟩
abbrev cX12_isPart : ByteArray := prog_14_method_12_code
def yX12_isPart : MethodName := ⟨RX12, "isPart", "(II)Z"⟩
abbrev cX12_bough : ByteArray := prog_14_method_13_code
def yX12_bough : MethodName := ⟨RX12, "bough", "(IIII)I"⟩
abbrev cX12_isUnder : ByteArray := prog_14_method_14_code
def yX12_isUnder : MethodName := ⟨RX12, "isUnder", "(II)Z"⟩
abbrev cX12_fact : ByteArray := prog_14_method_15_code
def yX12_fact : MethodName := ⟨RX12, "fact", "(II)I"⟩
abbrev cX12_isHolding : ByteArray := prog_14_method_16_code
def yX12_isHolding : MethodName := ⟨RX12, "isHolding", "(III)Z"⟩
abbrev cX12_isSo : ByteArray := prog_14_method_17_code
def yX12_isSo : MethodName := ⟨RX12, "isSo", "(III)Z"⟩
abbrev cX12_holdsNow : ByteArray := prog_14_method_18_code
def yX12_holdsNow : MethodName := ⟨RX12, "holdsNow", "(I)I"⟩
abbrev cX12_findHolds : ByteArray := prog_14_method_19_code
def yX12_findHolds : MethodName := ⟨RX12, "findHolds", "()V"⟩
abbrev cX12_loads : ByteArray := prog_14_method_20_code
def yX12_loads : MethodName := ⟨RX12, "loads", "(II)V"⟩
abbrev cX12_findBears : ByteArray := prog_14_method_21_code
def yX12_findBears : MethodName := ⟨RX12, "findBears", "()V"⟩
abbrev cX12_isCracking : ByteArray := prog_14_method_22_code
def yX12_isCracking : MethodName := ⟨RX12, "isCracking", "(I)Z"⟩
abbrev cX12_crackSet : ByteArray := prog_14_method_23_code
def yX12_crackSet : MethodName := ⟨RX12, "crackSet", "()I"⟩
abbrev cX12_isSafe : ByteArray := prog_14_method_24_code
def yX12_isSafe : MethodName := ⟨RX12, "isSafe", "()Z"⟩
abbrev cX12_findAll : ByteArray := prog_14_method_25_code
def yX12_findAll : MethodName := ⟨RX12, "findAll", "()V"⟩
abbrev cX12_boughOf : ByteArray := prog_14_method_26_code
def yX12_boughOf : MethodName := ⟨RX12, "boughOf", "(II)I"⟩
abbrev cX12_change : ByteArray := prog_14_method_27_code
def yX12_change : MethodName := ⟨RX12, "change", "(III)I"⟩
abbrev cX12_graft : ByteArray := prog_14_method_28_code
def yX12_graft : MethodName := ⟨RX12, "graft", "(II)I"⟩
abbrev cX12_weather : ByteArray := prog_14_method_29_code
def yX12_weather : MethodName := ⟨RX12, "weather", "(II)I"⟩
abbrev cX12_where : ByteArray := prog_14_method_30_code
def yX12_where : MethodName := ⟨RX12, "where", "(II)I"⟩
abbrev cX12_whose : ByteArray := prog_14_method_31_code
def yX12_whose : MethodName := ⟨RX12, "whose", "(II)I"⟩
abbrev cX12_seatOf : ByteArray := prog_14_method_32_code
def yX12_seatOf : MethodName := ⟨RX12, "seatOf", "(I)I"⟩
abbrev cX12_seats : ByteArray := prog_14_method_33_code
def yX12_seats : MethodName := ⟨RX12, "seats", "(II)V"⟩
abbrev cX12_person : ByteArray := prog_14_method_34_code
def yX12_person : MethodName := ⟨RX12, "person", "(II)I"⟩
abbrev cX12_toldSeat : ByteArray := prog_14_method_35_code
def yX12_toldSeat : MethodName := ⟨RX12, "toldSeat", "(I)I"⟩
abbrev cX12_personOf : ByteArray := prog_14_method_36_code
def yX12_personOf : MethodName := ⟨RX12, "personOf", "(II)I"⟩
abbrev cX12_sit : ByteArray := prog_14_method_37_code
def yX12_sit : MethodName := ⟨RX12, "sit", "(II)I"⟩
abbrev cX12_down : ByteArray := prog_14_method_38_code
def yX12_down : MethodName := ⟨RX12, "down", "(I)I"⟩
abbrev cX12_cracks : ByteArray := prog_14_method_39_code
def yX12_cracks : MethodName := ⟨RX12, "cracks", "()I"⟩
abbrev cX12_worstOf : ByteArray := prog_14_method_40_code
def yX12_worstOf : MethodName := ⟨RX12, "worstOf", "()I"⟩
abbrev cX12_worst : ByteArray := prog_14_method_41_code
def yX12_worst : MethodName := ⟨RX12, "worst", "()I"⟩
abbrev cX12_isAbove : ByteArray := prog_14_method_42_code
def yX12_isAbove : MethodName := ⟨RX12, "isAbove", "(II)Z"⟩
abbrev cX12_falls : ByteArray := prog_14_method_43_code
def yX12_falls : MethodName := ⟨RX12, "falls", "()I"⟩
abbrev cX12_fall : ByteArray := prog_14_method_44_code
def yX12_fall : MethodName := ⟨RX12, "fall", "()I"⟩
abbrev cX12_would : ByteArray := prog_14_method_45_code
def yX12_would : MethodName := ⟨RX12, "would", "()I"⟩
abbrev cX12_findStanding : ByteArray := prog_14_method_46_code
def yX12_findStanding : MethodName := ⟨RX12, "findStanding", "()V"⟩
abbrev cX12_standing : ByteArray := prog_14_method_47_code
def yX12_standing : MethodName := ⟨RX12, "standing", "(I)I"⟩
abbrev cX12_verdict : ByteArray := prog_14_method_48_code
def yX12_verdict : MethodName := ⟨RX12, "verdict", "()I"⟩
abbrev cX12_roomOf : ByteArray := prog_14_method_49_code
def yX12_roomOf : MethodName := ⟨RX12, "roomOf", "(I)I"⟩
abbrev cX12_room : ByteArray := prog_14_method_50_code
def yX12_room : MethodName := ⟨RX12, "room", "(I)I"⟩
abbrev cX12_best : ByteArray := prog_14_method_51_code
def yX12_best : MethodName := ⟨RX12, "best", "(I)I"⟩
abbrev cX12_safe : ByteArray := prog_14_method_52_code
def yX12_safe : MethodName := ⟨RX12, "safe", "(I)I"⟩
abbrev cX12_prop : ByteArray := prog_14_method_53_code
def yX12_prop : MethodName := ⟨RX12, "prop", "()I"⟩
abbrev cX12_leastOf : ByteArray := prog_14_method_54_code
def yX12_leastOf : MethodName := ⟨RX12, "leastOf", "(IZ)I"⟩
abbrev cX12_windFor : ByteArray := prog_14_method_55_code
def yX12_windFor : MethodName := ⟨RX12, "windFor", "()I"⟩
abbrev cX12_sapFor : ByteArray := prog_14_method_56_code
def yX12_sapFor : MethodName := ⟨RX12, "sapFor", "()I"⟩
abbrev cX12_ones : ByteArray := prog_14_method_57_code
def yX12_ones : MethodName := ⟨RX12, "ones", "(I)I"⟩
abbrev cX12_isParty : ByteArray := prog_14_method_58_code
def yX12_isParty : MethodName := ⟨RX12, "isParty", "(I)Z"⟩
abbrev cX12_canSeat : ByteArray := prog_14_method_59_code
def yX12_canSeat : MethodName := ⟨RX12, "canSeat", "(I)Z"⟩
abbrev cX12_findSeating : ByteArray := prog_14_method_60_code
def yX12_findSeating : MethodName := ⟨RX12, "findSeating", "(I)Z"⟩
abbrev cX12_seat : ByteArray := prog_14_method_61_code
def yX12_seat : MethodName := ⟨RX12, "seat", "(II)I"⟩
abbrev cX12_seatAll : ByteArray := prog_14_method_62_code
def yX12_seatAll : MethodName := ⟨RX12, "seatAll", "(I)I"⟩
abbrev cX12_idler : ByteArray := prog_14_method_63_code
def yX12_idler : MethodName := ⟨RX12, "idler", "(I)I"⟩
abbrev cX12_worthOf : ByteArray := prog_14_method_64_code
def yX12_worthOf : MethodName := ⟨RX12, "worthOf", "(II)I"⟩
abbrev cX12_leadsTo : ByteArray := prog_14_method_65_code
def yX12_leadsTo : MethodName := ⟨RX12, "leadsTo", "(IIII)I"⟩
abbrev cX12_valueOf : ByteArray := prog_14_method_66_code
def yX12_valueOf : MethodName := ⟨RX12, "valueOf", "(II)I"⟩
abbrev cX12_isGame : ByteArray := prog_14_method_67_code
def yX12_isGame : MethodName := ⟨RX12, "isGame", "(II)Z"⟩
abbrev cX12_game : ByteArray := prog_14_method_68_code
def yX12_game : MethodName := ⟨RX12, "game", "(II)I"⟩
abbrev cX12_move : ByteArray := prog_14_method_69_code
def yX12_move : MethodName := ⟨RX12, "move", "(II)I"⟩
abbrev cX12_report : ByteArray := prog_14_method_70_code
def yX12_report : MethodName := ⟨RX12, "report", "(II)I"⟩
abbrev cX12_forget : ByteArray := prog_14_method_71_code
def yX12_forget : MethodName := ⟨RX12, "forget", "()I"⟩
abbrev cX12_isCracked : ByteArray := prog_14_method_72_code
def yX12_isCracked : MethodName := ⟨RX12, "isCracked", "(II)Z"⟩
abbrev cX12_findFits : ByteArray := prog_14_method_73_code
def yX12_findFits : MethodName := ⟨RX12, "findFits", "(I)V"⟩
abbrev cX12_span : ByteArray := prog_14_method_74_code
def yX12_span : MethodName := ⟨RX12, "span", "(I)I"⟩
abbrev cX12_liar : ByteArray := prog_14_method_75_code
def yX12_liar : MethodName := ⟨RX12, "liar", "()I"⟩
abbrev cX12_seed : ByteArray := prog_14_method_76_code
def yX12_seed : MethodName := ⟨RX12, "seed", "(I)I"⟩
abbrev cX12_draw : ByteArray := prog_14_method_77_code
def yX12_draw : MethodName := ⟨RX12, "draw", "()I"⟩
abbrev cX12_often : ByteArray := prog_14_method_78_code
def yX12_often : MethodName := ⟨RX12, "often", "(I)I"⟩
abbrev cX12_prove : ByteArray := prog_14_method_79_code
def yX12_prove : MethodName := ⟨RX12, "prove", "(I)I"⟩
abbrev cX12_isRow : ByteArray := prog_14_method_80_code
def yX12_isRow : MethodName := ⟨RX12, "isRow", "(II)Z"⟩
abbrev cX12_row : ByteArray := prog_14_method_81_code
def yX12_row : MethodName := ⟨RX12, "row", "(II)I"⟩
abbrev cX12_alterRow : ByteArray := prog_14_method_82_code
def yX12_alterRow : MethodName := ⟨RX12, "alterRow", "(III)I"⟩
abbrev cX12_judge : ByteArray := prog_14_method_83_code
def yX12_judge : MethodName := ⟨RX12, "judge", "()I"⟩
abbrev cX12_feed : ByteArray := prog_14_method_84_code
def yX12_feed : MethodName := ⟨RX12, "feed", "(JI)I"⟩
abbrev cX12_byteAt : ByteArray := prog_14_method_85_code
def yX12_byteAt : MethodName := ⟨RX12, "byteAt", "(I)I"⟩
abbrev cX12_isLetter : ByteArray := prog_14_method_86_code
def yX12_isLetter : MethodName := ⟨RX12, "isLetter", "(I)Z"⟩
abbrev cX12_isDigit : ByteArray := prog_14_method_87_code
def yX12_isDigit : MethodName := ⟨RX12, "isDigit", "(I)Z"⟩
abbrev cX12_token : ByteArray := prog_14_method_88_code
def yX12_token : MethodName := ⟨RX12, "token", "()V"⟩
abbrev cX12_needs : ByteArray := prog_14_method_89_code
def yX12_needs : MethodName := ⟨RX12, "needs", "(Z)V"⟩
abbrev cX12_word : ByteArray := prog_14_method_90_code
def yX12_word : MethodName := ⟨RX12, "word", "()J"⟩
abbrev cX12_number : ByteArray := prog_14_method_91_code
def yX12_number : MethodName := ⟨RX12, "number", "(I)V"⟩
abbrev cX12_kindHere : ByteArray := prog_14_method_92_code
def yX12_kindHere : MethodName := ⟨RX12, "kindHere", "()I"⟩
abbrev cX12_factHere : ByteArray := prog_14_method_93_code
def yX12_factHere : MethodName := ⟨RX12, "factHere", "()I"⟩
abbrev cX12_writes : ByteArray := prog_14_method_94_code
def yX12_writes : MethodName := ⟨RX12, "writes", "(I)V"⟩
abbrev cX12_valueHere : ByteArray := prog_14_method_95_code
def yX12_valueHere : MethodName := ⟨RX12, "valueHere", "()V"⟩
abbrev cX12_comparison : ByteArray := prog_14_method_96_code
def yX12_comparison : MethodName := ⟨RX12, "comparison", "()V"⟩
abbrev cX12_one : ByteArray := prog_14_method_97_code
def yX12_one : MethodName := ⟨RX12, "one", "()V"⟩
abbrev cX12_all : ByteArray := prog_14_method_98_code
def yX12_all : MethodName := ⟨RX12, "all", "()V"⟩
abbrev cX12_condition : ByteArray := prog_14_method_99_code
def yX12_condition : MethodName := ⟨RX12, "condition", "()V"⟩
abbrev cX12_rule : ByteArray := prog_14_method_100_code
def yX12_rule : MethodName := ⟨RX12, "rule", "()V"⟩
abbrev cX12_rules : ByteArray := prog_14_method_101_code
def yX12_rules : MethodName := ⟨RX12, "rules", "()I"⟩
abbrev cX12_isOne : ByteArray := prog_14_method_102_code
def yX12_isOne : MethodName := ⟨RX12, "isOne", "(I)Z"⟩
abbrev cX12_sheet : ByteArray := prog_14_method_103_code
def yX12_sheet : MethodName := ⟨RX12, "sheet", "(III)I"⟩
abbrev cX12_narrowed : ByteArray := prog_14_method_104_code
def yX12_narrowed : MethodName := ⟨RX12, "narrowed", "(II)I"⟩
abbrev cX12_write : ByteArray := prog_14_method_105_code
def yX12_write : MethodName := ⟨RX12, "write", "(III)I"⟩
abbrev cX12_wrong : ByteArray := prog_14_method_106_code
def yX12_wrong : MethodName := ⟨RX12, "wrong", "(II)I"⟩
abbrev cX12_item : ByteArray := prog_14_method_107_code
def yX12_item : MethodName := ⟨RX12, "item", "(III)I"⟩
abbrev cX12_climbs : ByteArray := prog_14_method_108_code
def yX12_climbs : MethodName := ⟨RX12, "climbs", "(IIII)I"⟩
abbrev cX12_shelf : ByteArray := prog_14_method_109_code
def yX12_shelf : MethodName := ⟨RX12, "shelf", "(III)I"⟩
abbrev cX12_onShelf : ByteArray := prog_14_method_110_code
def yX12_onShelf : MethodName := ⟨RX12, "onShelf", "(I)I"⟩
abbrev cX12_taken : ByteArray := prog_14_method_111_code
def yX12_taken : MethodName := ⟨RX12, "taken", "(II)I"⟩
abbrev cX12_runs : ByteArray := prog_14_method_112_code
def yX12_runs : MethodName := ⟨RX12, "runs", "(I)V"⟩
abbrev cX12_sways : ByteArray := prog_14_method_113_code
def yX12_sways : MethodName := ⟨RX12, "sways", "(I)I"⟩
abbrev cX12_bends : ByteArray := prog_14_method_114_code
def yX12_bends : MethodName := ⟨RX12, "bends", "(I)I"⟩
abbrev cX12_parts : ByteArray := prog_14_method_115_code
def yX12_parts : MethodName := ⟨RX12, "parts", "(I)I"⟩
abbrev cX12_shares : ByteArray := prog_14_method_116_code
def yX12_shares : MethodName := ⟨RX12, "shares", "(I)I"⟩
abbrev cX12_tells : ByteArray := prog_14_method_117_code
def yX12_tells : MethodName := ⟨RX12, "tells", "(I)I"⟩
abbrev cX12_act : ByteArray := prog_14_method_118_code
def yX12_act : MethodName := ⟨RX12, "act", "(III)I"⟩
abbrev cX12_traced : ByteArray := prog_14_method_119_code
def yX12_traced : MethodName := ⟨RX12, "traced", "()I"⟩
abbrev cX12_trace : ByteArray := prog_14_method_120_code
def yX12_trace : MethodName := ⟨RX12, "trace", "(I)I"⟩
abbrev cX12_many : ByteArray := prog_14_method_121_code
def yX12_many : MethodName := ⟨RX12, "many", "(I)I"⟩
abbrev cX12_keep : ByteArray := prog_14_method_122_code
def yX12_keep : MethodName := ⟨RX12, "keep", "()I"⟩
abbrev cX12_again : ByteArray := prog_14_method_123_code
def yX12_again : MethodName := ⟨RX12, "again", "()I"⟩
def RJ6 : String := "java/lang/Integer"
def TJ6 : u_T := fun k => match k with
  | _ => ("", "", "", false)
def tyJ6 : Nat → FieldType := fun k => match k with
  | _ => .int
abbrev wsJ60 : List Cond := u_ws RJ6 TJ6 0
theorem nmJ6 : ∀ a, a < 0 → ∀ b, b < 0 → a ≠ b → (TJ6 a).2.1 ≠ (TJ6 b).2.1 := by decide +kernel
theorem tyJ6_ok : ∀ k, k < 0 → parseFieldDescriptor (TJ6 k).2.2.1 = some (tyJ6 k) := by decide +kernel
abbrev cJ6_bitCount_0f7a4 : ByteArray := prog_15_method_49_code
def yJ6_bitCount_0f7a4 : MethodName := ⟨RJ6, "bitCount", "(I)I"⟩
def RJ9 : String := "java/lang/Math"
def TJ9 : u_T := fun k => match k with
  | _ => ("", "", "", false)
def tyJ9 : Nat → FieldType := fun k => match k with
  | _ => .int
abbrev wsJ90 : List Cond := u_ws RJ9 TJ9 0
theorem nmJ9 : ∀ a, a < 0 → ∀ b, b < 0 → a ≠ b → (TJ9 a).2.1 ≠ (TJ9 b).2.1 := by decide +kernel
theorem tyJ9_ok : ∀ k, k < 0 → parseFieldDescriptor (TJ9 k).2.2.1 = some (tyJ9 k) := by decide +kernel
abbrev cJ9_max_7cf53 : ByteArray := prog_16_method_65_code
def yJ9_max_7cf53 : MethodName := ⟨RJ9, "max", "(II)I"⟩
abbrev cJ9_min_7cf53 : ByteArray := prog_16_method_69_code
def yJ9_min_7cf53 : MethodName := ⟨RJ9, "min", "(II)I"⟩
def RJ0 : String := "java/lang/String"
def TJ0 : u_T := fun k => match k with
  | _ => ("", "", "", false)
def tyJ0 : Nat → FieldType := fun k => match k with
  | _ => .int
abbrev wsJ00 : List Cond := u_ws RJ0 TJ0 0
theorem nmJ0 : ∀ a, a < 0 → ∀ b, b < 0 → a ≠ b → (TJ0 a).2.1 ≠ (TJ0 b).2.1 := by decide +kernel
theorem tyJ0_ok : ∀ k, k < 0 → parseFieldDescriptor (TJ0 k).2.2.1 = some (tyJ0 k) := by decide +kernel
abbrev cJ0_length_8abf5 : ByteArray := prog_17_method_54_code
def yJ0_length_8abf5 : MethodName := ⟨RJ0, "length", "()I"⟩
abbrev cJ0_charAt_5068e : ByteArray := prog_17_method_56_code
def yJ0_charAt_5068e : MethodName := ⟨RJ0, "charAt", "(I)C"⟩
abbrev cJ0_coder_7d493 : ByteArray := prog_17_method_152_code
def yJ0_coder_7d493 : MethodName := ⟨RJ0, "coder", "()B"⟩
abbrev cJ0_isLatin1_aae02 : ByteArray := prog_17_method_154_code
def yJ0_isLatin1_aae02 : MethodName := ⟨RJ0, "isLatin1", "()Z"⟩
abbrev cJ0_checkIndex_df160 : ByteArray := prog_17_method_155_code
def yJ0_checkIndex_df160 : MethodName := ⟨RJ0, "checkIndex", "(II)V"⟩
def RJ1 : String := "java/lang/StringLatin1"
def TJ1 : u_T := fun k => match k with
  | _ => ("", "", "", false)
def tyJ1 : Nat → FieldType := fun k => match k with
  | _ => .int
abbrev wsJ10 : List Cond := u_ws RJ1 TJ1 0
theorem nmJ1 : ∀ a, a < 0 → ∀ b, b < 0 → a ≠ b → (TJ1 a).2.1 ≠ (TJ1 b).2.1 := by decide +kernel
theorem tyJ1_ok : ∀ k, k < 0 → parseFieldDescriptor (TJ1 k).2.2.1 = some (tyJ1 k) := by decide +kernel
abbrev cJ1_charAt_3b067 : ByteArray := prog_18_method_2_code
def yJ1_charAt_3b067 : MethodName := ⟨RJ1, "charAt", "([BI)C"⟩
def RJ2 : String := "java/lang/StringUTF16"
def TJ2 : u_T := fun k => match k with
  | _ => ("", "", "", false)
def tyJ2 : Nat → FieldType := fun k => match k with
  | _ => .int
abbrev wsJ20 : List Cond := u_ws RJ2 TJ2 0
theorem nmJ2 : ∀ a, a < 0 → ∀ b, b < 0 → a ≠ b → (TJ2 a).2.1 ≠ (TJ2 b).2.1 := by decide +kernel
theorem tyJ2_ok : ∀ k, k < 0 → parseFieldDescriptor (TJ2 k).2.2.1 = some (tyJ2 k) := by decide +kernel
abbrev cJ2_getChar_3b067 : ByteArray := prog_19_method_5_code
def yJ2_getChar_3b067 : MethodName := ⟨RJ2, "getChar", "([BI)C"⟩
abbrev cJ2_length_9d52b : ByteArray := prog_19_method_6_code
def yJ2_length_9d52b : MethodName := ⟨RJ2, "length", "([B)I"⟩
abbrev cJ2_charAt_3b067 : ByteArray := prog_19_method_83_code
def yJ2_charAt_3b067 : MethodName := ⟨RJ2, "charAt", "([BI)C"⟩
abbrev cJ2_checkIndex_2214a : ByteArray := prog_19_method_91_code
def yJ2_checkIndex_2214a : MethodName := ⟨RJ2, "checkIndex", "(I[B)V"⟩
def RJ10 : String := "java/lang/System"
def TJ10 : u_T := fun k => match k with
  | _ => ("", "", "", false)
def tyJ10 : Nat → FieldType := fun k => match k with
  | _ => .int
abbrev wsJ100 : List Cond := u_ws RJ10 TJ10 0
theorem nmJ10 : ∀ a, a < 0 → ∀ b, b < 0 → a ≠ b → (TJ10 a).2.1 ≠ (TJ10 b).2.1 := by decide +kernel
theorem tyJ10_ok : ∀ k, k < 0 → parseFieldDescriptor (TJ10 k).2.2.1 = some (tyJ10 k) := by decide +kernel
def RJ3 : String := "jdk/internal/util/Preconditions"
def TJ3 : u_T := fun k => match k with
  | _ => ("", "", "", false)
def tyJ3 : Nat → FieldType := fun k => match k with
  | _ => .int
abbrev wsJ30 : List Cond := u_ws RJ3 TJ3 0
theorem nmJ3 : ∀ a, a < 0 → ∀ b, b < 0 → a ≠ b → (TJ3 a).2.1 ≠ (TJ3 b).2.1 := by decide +kernel
theorem tyJ3_ok : ∀ k, k < 0 → parseFieldDescriptor (TJ3 k).2.2.1 = some (tyJ3 k) := by decide +kernel
abbrev cJ3_checkIndex_8e157 : ByteArray := prog_21_method_11_code
def yJ3_checkIndex_8e157 : MethodName := ⟨RJ3, "checkIndex", "(IILjava/util/function/BiFunction;)I"⟩
def RL : String := "OakCourtLaw"
abbrev cL_law : ByteArray := code
def yL_law : MethodName := ⟨RL, "law", "([I)Z"⟩
end
section
/-- the kinds of cells -/
def zKD : List (Nat × Nat) := [(0, 3), (0, 1), (1, 9), (1, 9), (1, 9), (1, 9), (1, 9), (0, 8), (1, 8), (1, 8), (1, 8), (1, 8), (1, 200), (1, 5), (1, 16), (0, 4), (1, 8), (1, 8), (1, 8), (0, 5), (1, 6), (1, 6), (1, 9), (9, 0), (9, 0), (9, 0), (9, 0), (9, 0), (9, 0), (9, 0), (0, 11), (0, 10), (1, 200), (0, 7), (1, 200), (0, 9), (1, 4), (1, 4), (0, 6), (3, 9), (1, 3), (0, 2), (1, 4), (1, 4), (4, 4), (2, 40), (1, 4), (1, 4), (1, 4), (0, 0), (1, 30), (9, 0), (9, 0), (9, 0), (9, 0), (9, 0), (9, 0), (9, 0), (9, 0), (9, 0), (0, 12), (1, 320), (1, 320), (1, 320), (1, 200), (1, 9), (1, 9), (1, 2), (1, 8), (1, 8), (1, 8), (1, 27), (1, 200), (1, 4), (1, 4), (1, 160), (1, 4), (1, 4), (1, 4), (1, 30), (9, 0), (9, 0), (9, 0), (9, 0), (9, 0), (9, 0), (9, 0), (9, 0), (9, 0), (9, 0), (5, 0), (9, 0), (9, 0), (9, 0), (9, 0), (6, 0), (7, 0), (9, 0)]
/-- where fields lead -/
def zED : List (List (Option (Option Nat × Nat))) := [[some (none, 1), some (none, 15), some (none, 19), none, some (none, 22)],
  [none, some (none, 2), some (none, 3), some (none, 4), some (none, 5), some (none, 6), none, none, none, some (none, 7)],
  [],
  [],
  [],
  [],
  [],
  [none, some (none, 8), some (none, 9), some (none, 10), some (none, 11), some (none, 12), some (none, 13), some (none, 14)],
  [],
  [],
  [],
  [],
  [],
  [],
  [],
  [none, some (none, 16), some (none, 17), some (none, 18)],
  [],
  [],
  [],
  [none, some (none, 20), some (none, 21), none, none],
  [],
  [],
  [],
  [],
  [],
  [],
  [],
  [],
  [],
  [],
  [some (some 0, 0), some (some 1, 0), some (some 2, 0), none, some (some 0, 31), some (some 0, 33), some (some 0, 35), some (some 0, 38), some (some 0, 41), some (some 0, 49)],
  [none, some (none, 32)],
  [],
  [some (some 4, 7), none, none, none, none, some (none, 34), none],
  [],
  [none, some (none, 36), some (none, 37), some (some 3, 0)],
  [],
  [],
  [none, some (none, 39)],
  [],
  [],
  [some (none, 42), some (none, 43), some (none, 44), some (none, 46), some (none, 47), some (none, 48)],
  [],
  [],
  [],
  [],
  [],
  [],
  [],
  [none, some (none, 50), none, none, none, none],
  [],
  [],
  [],
  [],
  [],
  [],
  [],
  [],
  [],
  [],
  [some (none, 61), some (none, 62), some (none, 63), none, some (none, 64), some (none, 65), some (none, 66), some (none, 67), some (none, 68), some (none, 69), some (none, 70), none, none, none, none, some (none, 71), none, some (none, 72), none, none, none, none, none, none, none, some (none, 73), some (none, 74), some (none, 75), some (none, 76), some (none, 77), some (none, 78), some (none, 79), none, none, none, none, none],
  [],
  [],
  [],
  [],
  [],
  [],
  [],
  [],
  [],
  [],
  [],
  [],
  [],
  [],
  [],
  [],
  [],
  [],
  [],
  [],
  [],
  [],
  [],
  [],
  [],
  [],
  [],
  [],
  [],
  [],
  [],
  [],
  [],
  [],
  [],
  [],
  []]
/-- how many cells of a kind -/
def zNIL : List Nat := [4, 4, 4, 4, 4, 4, 4, 5, 5, 5, 5, 5, 5, 5, 5, 4, 4, 4, 4, 4, 4, 4, 4, 0, 0, 0, 0, 0, 0, 0, 1, 1, 1, 1, 1, 1, 1, 1, 1, 1, 9, 1, 1, 1, 1, 4, 1, 1, 1, 1, 1, 0, 0, 0, 0, 0, 0, 0, 0, 0, 1, 1, 1, 1, 1, 1, 1, 1, 1, 1, 1, 1, 1, 1, 1, 1, 1, 1, 1, 1, 0, 0, 0, 0, 0, 0, 0, 0, 0, 0, 0, 0, 0, 0, 0, 0, 0, 0]
def zNI (k : Nat) : Nat := zNIL.getD k 0
def zFD : List (List (Nat × Nat × Nat)) := [[(9, 0, 1), (15, 0, 3), (19, 0, 4), (22, 0, 5), (25, 0, 2), (29, 0, 0)],
  [(9, 1, 1), (15, 1, 2), (18, 1, 3), (21, 1, 4), (24, 1, 5), (30, 1, 9), (34, 1, 0), (42, 1, 6), (45, 1, 7), (48, 1, 8)],
  [(9, 2, 0), (15, 2, 1), (20, 2, 2), (23, 2, 3), (26, 2, 4), (29, 2, 5)],
  [(12, 3, 0), (21, 3, 1), (28, 3, 2), (32, 3, 3), (36, 3, 4), (50, 1, 8), (53, 1, 3), (56, 4, 0), (59, 4, 3), (66, 4, 1), (69, 1, 0), (100, 1, 6)],
  [(9, 4, 1), (15, 4, 2), (18, 4, 3), (21, 4, 0)],
  [(9, 5, 1), (15, 5, 2), (18, 5, 0), (26, 5, 3), (29, 5, 4), (36, 3, 0)],
  [(11, 6, 1), (16, 6, 0), (20, 3, 0), (39, 1, 2)],
  [(12, 7, 0), (18, 7, 5), (22, 8, 0), (26, 7, 1), (29, 7, 3), (32, 7, 4), (35, 7, 6), (38, 10, 0), (87, 8, 1), (94, 8, 2), (97, 8, 3), (100, 8, 4), (112, 7, 2), (120, 8, 5)],
  [(9, 8, 1), (15, 8, 2), (18, 8, 3), (21, 8, 4), (24, 8, 5), (27, 8, 6), (30, 8, 7), (33, 8, 0)],
  [(9, 9, 1), (15, 9, 2), (21, 9, 3), (29, 9, 0), (33, 3, 1), (37, 4, 0), (44, 4, 3), (56, 4, 1), (59, 3, 0), (63, 1, 0), (89, 4, 2)],
  [(9, 10, 1), (15, 10, 0)],
  [(10, 11, 0), (16, 11, 1), (19, 11, 2), (25, 11, 4), (32, 11, 5), (39, 11, 6), (46, 11, 7), (53, 11, 8), (60, 11, 9), (68, 3, 0), (81, 1, 0), (92, 1, 1), (96, 1, 2), (99, 1, 3), (102, 1, 4), (119, 1, 7), (122, 1, 8), (125, 10, 0), (134, 1, 9), (138, 7, 0), (145, 8, 0), (149, 3, 1), (153, 4, 0), (161, 4, 1), (164, 4, 2), (167, 4, 3), (217, 9, 0), (218, 9, 2), (219, 9, 1), (234, 3, 2), (238, 5, 0), (251, 5, 3), (254, 5, 4), (257, 3, 3), (270, 6, 0), (274, 6, 1), (285, 2, 0), (295, 2, 2), (318, 2, 5), (321, 2, 4), (330, 0, 0), (348, 0, 2), (352, 0, 1), (358, 11, 3)],
  [(7, 12, 0), (13, 12, 1), (16, 12, 2), (19, 12, 4), (22, 12, 5), (25, 12, 6), (28, 12, 7), (31, 12, 8), (34, 12, 9), (37, 12, 10), (40, 12, 15), (43, 12, 17), (46, 12, 25), (49, 12, 26), (52, 12, 27), (55, 12, 28), (58, 12, 29), (61, 12, 30), (64, 12, 31), (191, 12, 11), (227, 12, 12), (233, 12, 13), (236, 12, 14), (249, 12, 16), (257, 12, 18), (270, 12, 20), (273, 12, 19), (285, 12, 24), (296, 12, 21), (329, 12, 23), (346, 12, 22), (402, 12, 36), (405, 12, 32), (408, 12, 35), (414, 12, 33), (420, 12, 34), (438, 12, 3)],
  [],
  [],
  [],
  [(9, 16, 0), (15, 16, 1), (38, 17, 0), (1053, 17, 1)],
  [],
  []]
def zMD : List (List (Nat × Nat × Nat × Nat)) := [[(32, 1, 2, 1), (36, 6, 2, 1), (40, 7, 2, 1), (43, 8, 2, 1), (46, 2, 2, 1), (49, 9, 2, 1), (52, 10, 2, 1), (55, 4, 2, 1), (58, 3, 2, 1)],
  [(38, 148, 2, 0), (51, 63, 2, 9), (55, 13, 2, 2), (59, 145, 2, 0), (63, 64, 6, 9), (67, 65, 2, 9), (71, 272, 2, 0)],
  [],
  [(40, 11, 2, 2), (44, 35, 2, 5), (47, 40, 2, 6), (62, 15, 3, 2), (70, 16, 2, 2), (74, 26, 2, 4), (77, 14, 2, 2), (81, 273, 2, 0), (87, 272, 2, 0), (90, 27, 1, 4), (93, 31, 1, 4), (97, 34, 2, 4), (103, 28, 3, 4)],
  [(25, 148, 2, 0)],
  [(22, 148, 2, 0), (32, 43, 3, 6), (41, 14, 2, 2), (47, 29, 1, 4), (51, 32, 2, 4), (55, 272, 2, 0), (61, 273, 2, 0)],
  [(26, 13, 2, 2), (32, 26, 2, 4), (36, 16, 2, 2)],
  [(41, 76, 2, 11), (45, 77, 2, 11), (49, 78, 3, 11), (53, 49, 2, 8), (56, 50, 2, 8), (59, 51, 2, 8), (62, 52, 2, 8), (65, 53, 2, 8), (68, 54, 2, 8), (71, 55, 2, 8), (74, 56, 2, 8), (77, 57, 2, 8), (80, 58, 2, 8), (83, 141, 3, 0), (90, 61, 2, 8), (103, 60, 2, 8), (106, 59, 1, 0), (109, 62, 2, 8), (115, 272, 2, 0)],
  [(37, 148, 2, 0), (41, 146, 2, 0), (45, 67, 3, 9), (48, 66, 3, 9), (52, 272, 2, 0), (57, 68, 3, 0)],
  [(25, 25, 2, 4), (40, 145, 2, 0), (45, 27, 1, 4), (48, 29, 1, 4), (52, 70, 2, 10), (66, 14, 2, 2), (69, 28, 3, 4), (73, 73, 3, 10), (77, 71, 4, 10), (81, 39, 2, 5), (85, 74, 4, 10)],
  [(19, 82, 1, 0), (23, 83, 1, 0), (26, 80, 3, 11), (30, 79, 3, 11), (35, 81, 4, 11), (73, 274, 1, 17), (79, 275, 2, 17)],
  [(64, 142, 1, 0), (72, 13, 2, 2), (77, 141, 3, 0), (85, 14, 2, 2), (88, 12, 5, 2), (105, 16, 2, 2), (109, 26, 2, 4), (112, 30, 2, 4), (115, 147, 3, 0), (126, 75, 3, 11), (130, 48, 2, 8), (139, 63, 2, 9), (146, 143, 1, 0), (156, 36, 3, 5), (160, 37, 2, 5), (170, 27, 1, 4), (173, 29, 1, 4), (177, 31, 1, 4), (180, 33, 1, 4), (183, 25, 2, 4), (186, 38, 2, 5), (189, 32, 2, 4), (192, 107, 2, 12), (196, 28, 3, 4), (200, 108, 2, 12), (203, 109, 1, 12), (206, 145, 2, 0), (210, 114, 2, 12), (213, 69, 3, 10), (222, 71, 4, 10), (226, 72, 4, 10), (229, 271, 1, 0), (241, 41, 3, 6), (244, 42, 3, 6), (248, 44, 1, 6), (260, 122, 1, 0), (263, 123, 1, 0), (267, 46, 3, 7), (271, 45, 3, 7), (278, 47, 2, 7), (282, 144, 1, 0), (288, 17, 4, 3), (292, 19, 3, 3), (299, 138, 2, 0), (303, 18, 3, 3), (306, 20, 3, 3), (309, 21, 3, 3), (312, 22, 2, 3), (315, 24, 2, 3), (324, 137, 2, 12), (327, 146, 2, 0), (333, 0, 4, 1), (336, 2, 2, 1), (339, 3, 2, 1), (342, 4, 2, 1), (345, 5, 2, 1), (355, 23, 2, 3), (361, 273, 2, 0), (366, 282, 5, 0)],
  [(67, 149, 3, 0), (71, 155, 2, 0), (75, 156, 3, 13), (84, 150, 2, 13), (88, 159, 2, 0), (92, 157, 2, 13), (95, 162, 3, 13), (98, 163, 3, 0), (102, 161, 2, 0), (105, 164, 4, 13), (108, 165, 2, 13), (112, 158, 2, 13), (115, 179, 2, 13), (118, 178, 3, 13), (121, 167, 3, 13), (125, 168, 1, 13), (128, 169, 2, 13), (131, 170, 1, 13), (135, 166, 1, 13), (140, 172, 1, 13), (143, 177, 2, 0), (148, 151, 2, 13), (153, 182, 2, 13), (156, 180, 3, 13), (159, 187, 1, 13), (162, 189, 3, 13), (165, 190, 1, 13), (168, 153, 1, 13), (171, 154, 1, 13), (174, 193, 1, 13), (177, 196, 2, 13), (180, 171, 1, 13), (184, 201, 3, 13), (188, 204, 1, 0), (195, 206, 2, 13), (198, 152, 2, 0), (201, 205, 2, 13), (206, 207, 2, 13), (209, 213, 3, 13), (212, 210, 2, 13), (215, 212, 5, 13), (219, 211, 2, 0), (224, 214, 2, 0), (230, 219, 3, 13), (239, 220, 2, 13), (246, 224, 1, 13), (252, 227, 3, 13), (276, 232, 2, 13), (279, 233, 1, 0), (282, 234, 1, 0), (289, 235, 1, 13), (299, 236, 2, 13), (303, 237, 1, 13), (332, 240, 1, 13), (335, 241, 2, 13), (338, 238, 2, 13), (341, 242, 1, 13), (349, 246, 1, 13), (352, 243, 1, 13), (355, 244, 1, 13), (360, 245, 1, 13), (365, 239, 1, 13), (376, 247, 1, 13), (379, 249, 1, 0), (384, 251, 2, 0), (387, 253, 3, 13), (392, 184, 3, 13), (399, 257, 2, 13), (411, 259, 2, 13), (417, 260, 2, 13), (423, 262, 2, 13), (426, 261, 2, 13), (429, 263, 2, 13), (432, 264, 2, 13), (435, 266, 1, 13)],
  [],
  [],
  [(13, 84, 5, 12), (17, 160, 5, 13), (18, 85, 3, 12), (22, 173, 3, 13), (23, 86, 4, 12), (27, 174, 4, 13), (28, 87, 3, 12), (31, 175, 3, 13), (32, 88, 3, 12), (35, 176, 3, 13), (38, 89, 3, 12), (42, 231, 3, 13), (43, 90, 1, 12), (47, 248, 1, 13), (48, 91, 3, 12), (51, 181, 3, 13), (52, 92, 3, 12), (55, 183, 3, 13), (56, 93, 3, 12), (59, 184, 3, 13), (60, 94, 2, 12), (64, 185, 2, 13), (65, 95, 1, 12), (68, 186, 1, 13), (69, 96, 1, 12), (72, 188, 1, 13), (73, 97, 1, 12), (76, 191, 1, 13), (77, 98, 1, 12), (80, 192, 1, 13), (81, 99, 2, 12), (84, 194, 2, 13), (85, 100, 1, 12), (88, 195, 1, 13), (89, 101, 2, 12), (92, 197, 2, 13), (93, 102, 2, 12), (96, 198, 2, 13), (97, 103, 2, 12), (100, 199, 2, 13), (101, 104, 1, 12), (104, 200, 1, 13), (105, 105, 1, 12), (108, 202, 1, 13), (109, 106, 1, 12), (112, 203, 1, 13), (113, 110, 3, 12), (116, 208, 3, 13), (117, 111, 2, 12), (120, 209, 2, 13), (121, 112, 3, 12), (124, 215, 3, 13), (125, 113, 3, 12), (128, 216, 3, 13), (129, 115, 3, 12), (132, 217, 3, 13), (133, 116, 1, 12), (136, 218, 1, 13), (137, 117, 2, 12), (140, 221, 2, 13), (141, 118, 1, 12), (144, 222, 1, 13), (145, 119, 2, 12), (148, 223, 2, 13), (149, 120, 1, 12), (152, 224, 1, 13), (153, 121, 2, 12), (156, 225, 2, 13), (157, 124, 2, 12), (160, 226, 2, 13), (161, 125, 3, 12), (164, 228, 3, 13), (165, 126, 4, 12), (168, 229, 4, 13), (169, 127, 1, 12), (172, 230, 1, 13), (173, 128, 4, 12), (176, 250, 4, 13), (177, 129, 4, 12), (180, 252, 4, 13), (181, 130, 4, 12), (184, 254, 4, 13), (185, 131, 5, 12), (188, 255, 5, 13), (189, 132, 4, 12), (192, 256, 4, 13), (193, 133, 3, 12), (196, 258, 3, 13), (197, 134, 4, 12), (200, 265, 4, 13), (201, 135, 2, 12), (204, 267, 2, 13), (205, 136, 2, 12), (208, 268, 2, 13), (209, 139, 1, 12), (212, 269, 1, 13), (213, 140, 1, 12), (216, 270, 1, 13)],
  [(335, 276, 1, 17), (492, 277, 1, 17), (495, 279, 2, 0), (1059, 280, 3, 0)],
  [(9, 278, 2, 0)],
  []]
def zSD : List (List (Nat × Nat × Nat)) := [[],
  [],
  [],
  [],
  [],
  [],
  [],
  [],
  [],
  [],
  [(33, 0, 0), (39, 1, 0), (41, 2, 0), (43, 3, 0), (45, 4, 0), (47, 5, 0), (49, 6, 0), (51, 7, 0), (53, 8, 0), (55, 9, 0), (57, 10, 0), (59, 11, 0), (61, 12, 0), (63, 13, 0), (65, 14, 0), (67, 15, 0), (69, 16, 0), (71, 17, 0)],
  [],
  [],
  [],
  [],
  [],
  [],
  [],
  []]
/-- the texts' bytes -/
def zSL : List (List Int32) := [[98, 111, 117, 103, 104], [103, 114, 101, 101, 110], [100, 114, 121], [111, 108, 100], [112, 114, 111, 112, 112, 101, 100], [107, 105, 110, 103, 115], [109, 111, 114, 101], [108, 101, 115, 115], [99, 117, 116], [105, 102], [110, 111, 116], [97, 110, 100], [111, 114], [115, 97, 112], [119, 105, 110, 100], [108, 111, 110, 103], [104, 111, 108, 100, 115], [110, 117, 109, 98, 101, 114]]
/-- methods: class, what comes back -/
def zMI : List (Nat × Nat) := [(0, 0), (0, 0), (0, 1), (0, 1), (0, 1), (0, 1), (0, 1), (0, 1), (0, 1), (0, 1), (0, 1), (1, 0), (1, 1), (1, 3), (1, 3), (1, 3), (1, 1), (2, 0), (2, 1), (2, 3), (2, 0), (2, 0), (2, 0), (2, 3), (2, 3), (3, 0), (3, 1), (3, 0), (3, 0), (3, 1), (3, 1), (3, 1), (3, 1), (3, 1), (3, 1), (4, 0), (4, 1), (4, 3), (4, 1), (4, 1), (5, 0), (5, 1), (5, 0), (5, 0), (5, 1), (6, 3), (6, 0), (6, 1), (7, 1), (7, 3), (7, 3), (7, 3), (7, 3), (7, 3), (7, 3), (7, 3), (7, 3), (7, 3), (7, 3), (7, 3), (7, 0), (7, 0), (7, 0), (8, 0), (8, 0), (8, 1), (8, 1), (8, 3), (8, 3), (9, 3), (9, 3), (9, 1), (9, 1), (9, 1), (9, 1), (10, 0), (10, 3), (10, 1), (10, 1), (10, 1), (10, 1), (10, 3), (10, 3), (10, 3), (11, 1), (11, 1), (11, 1), (11, 1), (11, 1), (11, 1), (11, 1), (11, 1), (11, 1), (11, 1), (11, 1), (11, 1), (11, 1), (11, 1), (11, 1), (11, 1), (11, 1), (11, 1), (11, 1), (11, 1), (11, 1), (11, 1), (11, 1), (11, 0), (11, 1), (11, 1), (11, 1), (11, 1), (11, 1), (11, 1), (11, 3), (11, 1), (11, 1), (11, 1), (11, 1), (11, 1), (11, 1), (11, 1), (11, 1), (11, 1), (11, 1), (11, 1), (11, 1), (11, 1), (11, 1), (11, 1), (11, 1), (11, 1), (11, 1), (11, 1), (11, 1), (11, 1), (11, 1), (11, 1), (11, 2), (11, 1), (11, 1), (11, 3), (11, 3), (11, 3), (11, 3), (11, 3), (11, 3), (11, 1), (11, 0), (12, 3), (12, 3), (12, 3), (12, 3), (12, 0), (12, 0), (12, 1), (12, 1), (12, 3), (12, 1), (12, 3), (12, 1), (12, 3), (12, 1), (12, 3), (12, 3), (12, 1), (12, 0), (12, 0), (12, 0), (12, 3), (12, 1), (12, 3), (12, 0), (12, 1), (12, 1), (12, 1), (12, 1), (12, 1), (12, 1), (12, 1), (12, 0), (12, 1), (12, 1), (12, 1), (12, 1), (12, 1), (12, 1), (12, 1), (12, 1), (12, 3), (12, 1), (12, 1), (12, 1), (12, 0), (12, 1), (12, 1), (12, 1), (12, 1), (12, 1), (12, 1), (12, 1), (12, 1), (12, 1), (12, 1), (12, 1), (12, 3), (12, 3), (12, 3), (12, 1), (12, 1), (12, 1), (12, 1), (12, 1), (12, 1), (12, 3), (12, 1), (12, 1), (12, 1), (12, 1), (12, 3), (12, 0), (12, 1), (12, 1), (12, 1), (12, 1), (12, 1), (12, 1), (12, 3), (12, 1), (12, 1), (12, 1), (12, 1), (12, 1), (12, 3), (12, 3), (12, 0), (12, 0), (12, 2), (12, 0), (12, 1), (12, 1), (12, 0), (12, 0), (12, 0), (12, 0), (12, 0), (12, 0), (12, 0), (12, 1), (12, 3), (12, 1), (12, 1), (12, 1), (12, 1), (12, 1), (12, 1), (12, 1), (12, 1), (12, 1), (12, 0), (12, 1), (12, 1), (12, 1), (12, 1), (12, 1), (12, 1), (12, 1), (12, 1), (12, 1), (12, 1), (12, 1), (13, 1), (14, 1), (14, 1), (16, 1), (16, 4), (16, 5), (16, 3), (16, 0), (17, 4), (18, 1), (15, 3), (19, 0)]
/-- fields that are booleans -/
def zbl (c j : Nat) : Bool := (Nat.beq c 0 && Nat.beq j 2) || (Nat.beq c 11 && Nat.beq j 3) || (Nat.beq c 12 && Nat.beq j 3) || (Nat.beq c 12 && Nat.beq j 24) || (Nat.beq c 12 && Nat.beq j 36)
def zCl : List vw_C := [(RX0, TX0, 6), (RX1, TX1, 10), (RX2, TX2, 6), (RX3, TX3, 5), (RX4, TX4, 4), (RX5, TX5, 5), (RX6, TX6, 2), (RX7, TX7, 7), (RX8, TX8, 8), (RX9, TX9, 4), (RX10, TX10, 2), (RX11, TX11, 10), (RX12, TX12, 37)]
def zCN : List String := [RX0, RX1, RX2, RX3, RX4, RX5, RX6, RX7, RX8, RX9, RX10, RX11, RX12, RJ6, RJ9, RL, RJ0, RJ1, RJ3]
def zcn (i : Nat) : String := zCN.getD i ""
def zNest : List (String × Nat × MethodName × String) := [(RX1, 38, yX11_copyRow, "OakCourt"), (RX1, 59, yX11_isIn, "OakCourt"), (RX4, 25, yX11_copyRow, "OakCourt"), (RX5, 22, yX11_copyRow, "OakCourt"), (RX7, 83, yX11_isWithin, "OakCourt"), (RX8, 37, yX11_copyRow, "OakCourt"), (RX8, 41, yX11_isKindOf, "OakCourt"), (RX9, 40, yX11_isIn, "OakCourt")]
def zSI : List (Nat × String × Nat) := [(33, "bough", 0), (39, "green", 1), (41, "dry", 2), (43, "old", 3), (45, "propped", 4), (47, "kings", 5), (49, "more", 6), (51, "less", 7), (53, "cut", 8), (55, "if", 9), (57, "not", 10), (59, "and", 11), (61, "or", 12), (63, "sap", 13), (65, "wind", 14), (67, "long", 15), (69, "holds", 16), (71, "number", 17)]
noncomputable def zME : List (MethodName × ByteArray × Nat × Option FieldType) := [(yX0_take, cX0_take, 4, none), (yX0_begin, cX0_begin, 2, none), (yX0_sways, cX0_sways, 2, (some .int)), (yX0_bends, cX0_bends, 2, (some .int)), (yX0_shares, cX0_shares, 2, (some .int)), (yX0_tells, cX0_tells, 2, (some .int)), (yX0_plainSways, cX0_plainSways, 2, (some .int)), (yX0_plainBends, cX0_plainBends, 2, (some .int)), (yX0_proppedShares, cX0_proppedShares, 2, (some .int)), (yX0_plainShares, cX0_plainShares, 2, (some .int)), (yX0_plainTells, cX0_plainTells, 2, (some .int)), (yX1_copyFrom, cX1_copyFrom, 2, none), (yX1_grow, cX1_grow, 6, (some .int)), (yX1_isThere, cX1_isThere, 2, (some .boolean)), (yX1_isWhole, cX1_isWhole, 2, (some .boolean)), (yX1_isAbove, cX1_isAbove, 3, (some .boolean)), (yX1_holdsNow, cX1_holdsNow, 3, (some .int)), (yX2_lay, cX2_lay, 5, none), (yX2_refusalOf, cX2_refusalOf, 3, (some .int)), (yX2_hasItem, cX2_hasItem, 3, (some .boolean)), (yX2_shelveBough, cX2_shelveBough, 3, none), (yX2_shelveRow, cX2_shelveRow, 3, none), (yX2_clear, cX2_clear, 2, none), (yX2_isBough, cX2_isBough, 2, (some .boolean)), (yX2_isRow, cX2_isRow, 2, (some .boolean)), (yX3_copyFrom, cX3_copyFrom, 2, none), (yX3_bears, cX3_bears, 4, (some .int)), (yX3_measure, cX3_measure, 2, none), (yX3_load, cX3_load, 4, none), (yX3_cracking, cX3_cracking, 3, (some .int)), (yX3_stateOf, cX3_stateOf, 2, (some .int)), (yX3_leastSpare, cX3_leastSpare, 3, (some .int)), (yX3_roomOn, cX3_roomOn, 4, (some .int)), (yX3_breakDown, cX3_breakDown, 4, (some .int)), (yX3_breakOff, cX3_breakOff, 5, (some .int)), (yX4_copyFrom, cX4_copyFrom, 2, none), (yX4_join, cX4_join, 4, (some .int)), (yX4_isThere, cX4_isThere, 2, (some .boolean)), (yX4_seatedWeight, cX4_seatedWeight, 4, (some .int)), (yX4_firstUnseated, cX4_firstUnseated, 3, (some .int)), (yX5_copyFrom, cX5_copyFrom, 2, none), (yX5_note, cX5_note, 4, (some .int)), (yX5_fit, cX5_fit, 4, none), (yX5_narrow, cX5_narrow, 4, none), (yX5_fitting, cX5_fitting, 1, (some .int)), (yX6_has, cX6_has, 3, (some .boolean)), (yX6_tell, cX6_tell, 5, none), (yX6_firstWrong, cX6_firstWrong, 5, (some .int)), (yX7_faultOf, cX7_faultOf, 4, (some .int)), (yX7_takes, cX7_takes, 2, (some .boolean)), (yX7_takesKind, cX7_takesKind, 2, (some .boolean)), (yX7_takesIf, cX7_takesIf, 2, (some .boolean)), (yX7_takesDeed, cX7_takesDeed, 2, (some .boolean)), (yX7_takesAmount, cX7_takesAmount, 2, (some .boolean)), (yX7_takesEnd, cX7_takesEnd, 2, (some .boolean)), (yX7_takesOne, cX7_takesOne, 2, (some .boolean)), (yX7_takesSign, cX7_takesSign, 2, (some .boolean)), (yX7_takesValue, cX7_takesValue, 2, (some .boolean)), (yX7_takesJoint, cX7_takesJoint, 2, (some .boolean)), (yX7_isValue, cX7_isValue, 1, (some .boolean)), (yX7_await, cX7_await, 2, none), (yX7_settle, cX7_settle, 3, none), (yX7_step, cX7_step, 2, none), (yX8_copyFrom, cX8_copyFrom, 2, none), (yX8_setFacts, cX8_setFacts, 6, none), (yX8_changed, cX8_changed, 5, (some .int)), (yX8_changedBy, cX8_changedBy, 3, (some .int)), (yX8_isSo, cX8_isSo, 6, (some .boolean)), (yX8_joined, cX8_joined, 3, (some .boolean)), (yX9_finds, cX9_finds, 4, (some .boolean)), (yX9_seatsFrom, cX9_seatsFrom, 4, (some .boolean)), (yX9_gameValue, cX9_gameValue, 4, (some .int)), (yX9_firstMove, cX9_firstMove, 7, (some .int)), (yX9_valueOf, cX9_valueOf, 8, (some .int)), (yX9_valueBehind, cX9_valueBehind, 7, (some .int)), (yX10_append, cX10_append, 5, none), (yX10_isBlank, cX10_isBlank, 2, (some .boolean)), (yX10_endOfWord, cX10_endOfWord, 4, (some .int)), (yX10_word, cX10_word, 3, (some .int)), (yX10_numberWord, cX10_numberWord, 5, (some .int)), (yX10_nameWord, cX10_nameWord, 3, (some .int)), (yX10_isName, cX10_isName, 5, (some .boolean)), (yX10_isLetter, cX10_isLetter, 1, (some .boolean)), (yX10_isDigit, cX10_isDigit, 1, (some .boolean)), (yX11_bough, cX11_bough, 6, (some .int)), (yX11_boughOf, cX11_boughOf, 3, (some .int)), (yX11_change, cX11_change, 4, (some .int)), (yX11_graft, cX11_graft, 3, (some .int)), (yX11_weather, cX11_weather, 4, (some .int)), (yX11_feed, cX11_feed, 4, (some .int)), (yX11_rules, cX11_rules, 2, (some .int)), (yX11_person, cX11_person, 3, (some .int)), (yX11_personOf, cX11_personOf, 3, (some .int)), (yX11_sit, cX11_sit, 3, (some .int)), (yX11_down, cX11_down, 2, (some .int)), (yX11_cracks, cX11_cracks, 1, (some .int)), (yX11_worst, cX11_worst, 2, (some .int)), (yX11_fall, cX11_fall, 1, (some .int)), (yX11_would, cX11_would, 1, (some .int)), (yX11_standing, cX11_standing, 2, (some .int)), (yX11_verdict, cX11_verdict, 2, (some .int)), (yX11_room, cX11_room, 2, (some .int)), (yX11_best, cX11_best, 5, (some .int)), (yX11_safe, cX11_safe, 5, (some .int)), (yX11_prop, cX11_prop, 5, (some .int)), (yX11_windFor, cX11_windFor, 3, (some .int)), (yX11_sapFor, cX11_sapFor, 2, (some .int)), (yX11_tryWithout, cX11_tryWithout, 2, none), (yX11_seatedIfPropped, cX11_seatedIfPropped, 2, (some .int)), (yX11_crackingWinds, cX11_crackingWinds, 3, (some .int)), (yX11_seat, cX11_seat, 3, (some .int)), (yX11_seatAll, cX11_seatAll, 3, (some .int)), (yX11_game, cX11_game, 3, (some .int)), (yX11_move, cX11_move, 3, (some .int)), (yX11_isSeatable, cX11_isSeatable, 2, (some .boolean)), (yX11_report, cX11_report, 3, (some .int)), (yX11_forget, cX11_forget, 2, (some .int)), (yX11_span, cX11_span, 2, (some .int)), (yX11_liar, cX11_liar, 2, (some .int)), (yX11_seed, cX11_seed, 3, (some .int)), (yX11_draw, cX11_draw, 1, (some .int)), (yX11_often, cX11_often, 6, (some .int)), (yX11_drawnFrom, cX11_drawnFrom, 1, (some .int)), (yX11_windOf, cX11_windOf, 1, (some .int)), (yX11_prove, cX11_prove, 2, (some .int)), (yX11_row, cX11_row, 3, (some .int)), (yX11_alterRow, cX11_alterRow, 4, (some .int)), (yX11_judge, cX11_judge, 1, (some .int)), (yX11_sheet, cX11_sheet, 4, (some .int)), (yX11_write, cX11_write, 4, (some .int)), (yX11_item, cX11_item, 5, (some .int)), (yX11_climbs, cX11_climbs, 9, (some .int)), (yX11_shelf, cX11_shelf, 4, (some .int)), (yX11_taken, cX11_taken, 5, (some .int)), (yX11_act, cX11_act, 6, (some .int)), (yX11_trace, cX11_trace, 2, (some .int)), (yX11_many, cX11_many, 2, (some .int)), (yX11_boughOn, cX11_boughOn, 3, (some .int)), (yX11_narrowed, cX11_narrowed, 2, (some .long)), (yX11_keep, cX11_keep, 1, (some .int)), (yX11_again, cX11_again, 1, (some .int)), (yX11_isWithin, cX11_isWithin, 3, (some .boolean)), (yX11_isBoughKind, cX11_isBoughKind, 1, (some .boolean)), (yX11_isSide, cX11_isSide, 1, (some .boolean)), (yX11_isPlace, cX11_isPlace, 1, (some .boolean)), (yX11_isIn, cX11_isIn, 2, (some .boolean)), (yX11_isKindOf, cX11_isKindOf, 2, (some .boolean)), (yX11_replaced, cX11_replaced, 4, (some .int)), (yX11_copyRow, cX11_copyRow, 2, none), (yX12_in, cX12_in, 6, (some .boolean)), (yX12_isBough, cX12_isBough, 2, (some .boolean)), (yX12_isPerson, cX12_isPerson, 2, (some .boolean)), (yX12_has, cX12_has, 2, (some .boolean)), (yX12_puts, cX12_puts, 2, none), (yX12_putsBack, cX12_putsBack, 2, none), (yX12_at, cX12_at, 2, (some .int)), (yX12_its, cX12_its, 3, (some .int)), (yX12_isBroken, cX12_isBroken, 2, (some .boolean)), (yX12_below, cX12_below, 2, (some .int)), (yX12_isPart, cX12_isPart, 2, (some .boolean)), (yX12_bough, cX12_bough, 6, (some .int)), (yX12_isUnder, cX12_isUnder, 2, (some .boolean)), (yX12_fact, cX12_fact, 3, (some .int)), (yX12_isHolding, cX12_isHolding, 3, (some .boolean)), (yX12_isSo, cX12_isSo, 7, (some .boolean)), (yX12_holdsNow, cX12_holdsNow, 9, (some .int)), (yX12_findHolds, cX12_findHolds, 2, none), (yX12_loads, cX12_loads, 4, none), (yX12_findBears, cX12_findBears, 2, none), (yX12_isCracking, cX12_isCracking, 2, (some .boolean)), (yX12_crackSet, cX12_crackSet, 3, (some .int)), (yX12_isSafe, cX12_isSafe, 1, (some .boolean)), (yX12_findAll, cX12_findAll, 1, none), (yX12_boughOf, cX12_boughOf, 3, (some .int)), (yX12_change, cX12_change, 5, (some .int)), (yX12_graft, cX12_graft, 4, (some .int)), (yX12_weather, cX12_weather, 4, (some .int)), (yX12_where, cX12_where, 2, (some .int)), (yX12_whose, cX12_whose, 3, (some .int)), (yX12_seatOf, cX12_seatOf, 2, (some .int)), (yX12_seats, cX12_seats, 3, none), (yX12_person, cX12_person, 4, (some .int)), (yX12_toldSeat, cX12_toldSeat, 2, (some .int)), (yX12_personOf, cX12_personOf, 3, (some .int)), (yX12_sit, cX12_sit, 4, (some .int)), (yX12_down, cX12_down, 3, (some .int)), (yX12_cracks, cX12_cracks, 1, (some .int)), (yX12_worstOf, cX12_worstOf, 3, (some .int)), (yX12_worst, cX12_worst, 2, (some .int)), (yX12_isAbove, cX12_isAbove, 4, (some .boolean)), (yX12_falls, cX12_falls, 4, (some .int)), (yX12_fall, cX12_fall, 1, (some .int)), (yX12_would, cX12_would, 2, (some .int)), (yX12_findStanding, cX12_findStanding, 3, none), (yX12_standing, cX12_standing, 2, (some .int)), (yX12_verdict, cX12_verdict, 1, (some .int)), (yX12_roomOf, cX12_roomOf, 4, (some .int)), (yX12_room, cX12_room, 2, (some .int)), (yX12_best, cX12_best, 5, (some .int)), (yX12_safe, cX12_safe, 5, (some .int)), (yX12_prop, cX12_prop, 5, (some .int)), (yX12_leastOf, cX12_leastOf, 6, (some .int)), (yX12_windFor, cX12_windFor, 1, (some .int)), (yX12_sapFor, cX12_sapFor, 1, (some .int)), (yX12_ones, cX12_ones, 3, (some .int)), (yX12_isParty, cX12_isParty, 2, (some .boolean)), (yX12_canSeat, cX12_canSeat, 3, (some .boolean)), (yX12_findSeating, cX12_findSeating, 4, (some .boolean)), (yX12_seat, cX12_seat, 3, (some .int)), (yX12_seatAll, cX12_seatAll, 3, (some .int)), (yX12_idler, cX12_idler, 3, (some .int)), (yX12_worthOf, cX12_worthOf, 2, (some .int)), (yX12_leadsTo, cX12_leadsTo, 6, (some .int)), (yX12_valueOf, cX12_valueOf, 7, (some .int)), (yX12_isGame, cX12_isGame, 2, (some .boolean)), (yX12_game, cX12_game, 3, (some .int)), (yX12_move, cX12_move, 6, (some .int)), (yX12_report, cX12_report, 3, (some .int)), (yX12_forget, cX12_forget, 2, (some .int)), (yX12_isCracked, cX12_isCracked, 5, (some .boolean)), (yX12_findFits, cX12_findFits, 6, none), (yX12_span, cX12_span, 2, (some .int)), (yX12_liar, cX12_liar, 3, (some .int)), (yX12_seed, cX12_seed, 3, (some .int)), (yX12_draw, cX12_draw, 1, (some .int)), (yX12_often, cX12_often, 6, (some .int)), (yX12_prove, cX12_prove, 3, (some .int)), (yX12_isRow, cX12_isRow, 3, (some .boolean)), (yX12_row, cX12_row, 3, (some .int)), (yX12_alterRow, cX12_alterRow, 5, (some .int)), (yX12_judge, cX12_judge, 3, (some .int)), (yX12_feed, cX12_feed, 5, (some .int)), (yX12_byteAt, cX12_byteAt, 2, (some .int)), (yX12_isLetter, cX12_isLetter, 1, (some .boolean)), (yX12_isDigit, cX12_isDigit, 1, (some .boolean)), (yX12_token, cX12_token, 3, none), (yX12_needs, cX12_needs, 2, none), (yX12_word, cX12_word, 4, (some .long)), (yX12_number, cX12_number, 4, none), (yX12_kindHere, cX12_kindHere, 3, (some .int)), (yX12_factHere, cX12_factHere, 3, (some .int)), (yX12_writes, cX12_writes, 2, none), (yX12_valueHere, cX12_valueHere, 2, none), (yX12_comparison, cX12_comparison, 2, none), (yX12_one, cX12_one, 2, none), (yX12_all, cX12_all, 1, none), (yX12_condition, cX12_condition, 1, none), (yX12_rule, cX12_rule, 7, none), (yX12_rules, cX12_rules, 1, (some .int)), (yX12_isOne, cX12_isOne, 1, (some .boolean)), (yX12_sheet, cX12_sheet, 5, (some .int)), (yX12_narrowed, cX12_narrowed, 2, (some .int)), (yX12_write, cX12_write, 4, (some .int)), (yX12_wrong, cX12_wrong, 3, (some .int)), (yX12_item, cX12_item, 5, (some .int)), (yX12_climbs, cX12_climbs, 9, (some .int)), (yX12_shelf, cX12_shelf, 4, (some .int)), (yX12_onShelf, cX12_onShelf, 2, (some .int)), (yX12_taken, cX12_taken, 5, (some .int)), (yX12_runs, cX12_runs, 2, none), (yX12_sways, cX12_sways, 2, (some .int)), (yX12_bends, cX12_bends, 4, (some .int)), (yX12_parts, cX12_parts, 2, (some .int)), (yX12_shares, cX12_shares, 3, (some .int)), (yX12_tells, cX12_tells, 3, (some .int)), (yX12_act, cX12_act, 5, (some .int)), (yX12_traced, cX12_traced, 1, (some .int)), (yX12_trace, cX12_trace, 2, (some .int)), (yX12_many, cX12_many, 2, (some .int)), (yX12_keep, cX12_keep, 2, (some .int)), (yX12_again, cX12_again, 2, (some .int)), (yJ6_bitCount_0f7a4, cJ6_bitCount_0f7a4, 1, (some .int)), (yJ9_max_7cf53, cJ9_max_7cf53, 2, (some .int)), (yJ9_min_7cf53, cJ9_min_7cf53, 2, (some .int)), (yJ0_length_8abf5, cJ0_length_8abf5, 1, (some .int)), (yJ0_charAt_5068e, cJ0_charAt_5068e, 2, (some .char)), (yJ0_coder_7d493, cJ0_coder_7d493, 1, (some .byte)), (yJ0_isLatin1_aae02, cJ0_isLatin1_aae02, 1, (some .boolean)), (yJ0_checkIndex_df160, cJ0_checkIndex_df160, 2, none), (yJ1_charAt_3b067, cJ1_charAt_3b067, 2, (some .char)), (yJ3_checkIndex_8e157, cJ3_checkIndex_8e157, 3, (some .int)), (yL_law, cL_law, 4, (some .boolean))]
abbrev zNAC : Nat := 282
def zKC : List (Nat × Nat × Int32) := [(11, 266, 1103515245), (12, 243, 1103515245), (13, 265, 1431655765), (13, 266, 858993459), (13, 267, 252645135)]
def zKL : List (Nat × Nat × Int64) := [(12, 78, 9), (12, 80, 999), (12, 82, 5), (12, 138, 6), (12, 146, 200), (12, 151, 2), (12, 204, 3), (12, 222, 4), (12, 244, 60), (12, 255, 8), (12, 260, 255), (12, 262, 97), (12, 264, 122), (12, 266, 48), (12, 268, 57), (12, 292, 36028797018963967), (12, 294, 32), (12, 307, 2610408), (12, 309, 7935150), (12, 311, 4697), (12, 313, 15748), (12, 315, 17800118436), (12, 317, 11843827), (12, 319, 19504), (12, 321, 763332), (12, 323, 409031), (12, 325, 8892563), (12, 327, 492210354), (12, 344, 14836), (12, 358, 1476), (12, 363, 498), (12, 368, 294), (12, 370, 441925), (12, 372, 398963), (12, 374, 3764), (12, 382, (-1)), (12, 390, 20), (12, 395, 10), (12, 397, 14), (15, 36, 4294967295)]
end
section
def zNF (ci : Nat) : Nat := (zCl.getD ci (RX0, TX0, 0)).2.2
def zTX (ci : Nat) : u_T := (zCl.getD ci (RX0, TX0, 0)).2.1
def zGW : List Cond := lw_tbl.filter goodWord
def zhas (n : Nat) (w : Cond) : Bool := decide (lw_tbl[n]? = some w) && goodWord w
theorem zmem {n : Nat} {w : Cond} (h : zhas n w = true) : w ∈ zGW := by
  simp only [zhas, Bool.and_eq_true, decide_eq_true_eq] at h
  exact List.mem_filter.mpr ⟨List.mem_of_getElem? h.1, h.2⟩
end
section
set_option maxRecDepth 100000
/-- a field's word -/
def zflw (own i ci j : Nat) : Cond := match ci, j with
  | 16, 0 => .fieldLink (zcn own) i "java/lang/String" "value" "[B"
  | 16, _ => .fieldLink (zcn own) i "java/lang/String" "coder" "B"
  | 17, 0 => .fieldLink (zcn own) i "java/lang/String" "COMPACT_STRINGS" "Z"
  | 17, _ => .fieldLink (zcn own) i "jdk/internal/util/Preconditions" "SIOOBE_FORMATTER" "Ljava/util/function/BiFunction;"
  | _, _ => .fieldLink (zcn own) i (zTX ci j).1 (zTX ci j).2.1 (zTX ci j).2.2.1
def zFok (own : Nat) (q : Nat × Nat × Nat) : Prop := zflw own q.1 q.2.1 q.2.2 ∈ zGW ∧ (q.2.1 < 13 → q.2.2 < zNF q.2.1) ∧ (q.2.1 < 13 ∨ q.2.1 = 16 ∧ q.2.2 < 2 ∨ q.2.1 = 17 ∧ q.2.2 < 2)
theorem zFok_0 : ∀ q ∈ zFD.getD 0 [], zFok 0 q := List.forall_mem_cons.mpr ⟨⟨zmem (n := 424) (by decide +kernel), by decide +kernel, by decide +kernel⟩, List.forall_mem_cons.mpr ⟨⟨zmem (n := 428) (by decide +kernel), by decide +kernel, by decide +kernel⟩, List.forall_mem_cons.mpr ⟨⟨zmem (n := 429) (by decide +kernel), by decide +kernel, by decide +kernel⟩, List.forall_mem_cons.mpr ⟨⟨zmem (n := 430) (by decide +kernel), by decide +kernel, by decide +kernel⟩, List.forall_mem_cons.mpr ⟨⟨zmem (n := 426) (by decide +kernel), by decide +kernel, by decide +kernel⟩, List.forall_mem_cons.mpr ⟨⟨zmem (n := 422) (by decide +kernel), by decide +kernel, by decide +kernel⟩, fun _ h => absurd h List.not_mem_nil⟩⟩⟩⟩⟩⟩
theorem zFok_1 : ∀ q ∈ zFD.getD 1 [], zFok 1 q := List.forall_mem_cons.mpr ⟨⟨zmem (n := 177) (by decide +kernel), by decide +kernel, by decide +kernel⟩, List.forall_mem_cons.mpr ⟨⟨zmem (n := 179) (by decide +kernel), by decide +kernel, by decide +kernel⟩, List.forall_mem_cons.mpr ⟨⟨zmem (n := 182) (by decide +kernel), by decide +kernel, by decide +kernel⟩, List.forall_mem_cons.mpr ⟨⟨zmem (n := 185) (by decide +kernel), by decide +kernel, by decide +kernel⟩, List.forall_mem_cons.mpr ⟨⟨zmem (n := 187) (by decide +kernel), by decide +kernel, by decide +kernel⟩, List.forall_mem_cons.mpr ⟨⟨zmem (n := 195) (by decide +kernel), by decide +kernel, by decide +kernel⟩, List.forall_mem_cons.mpr ⟨⟨zmem (n := 173) (by decide +kernel), by decide +kernel, by decide +kernel⟩, List.forall_mem_cons.mpr ⟨⟨zmem (n := 188) (by decide +kernel), by decide +kernel, by decide +kernel⟩, List.forall_mem_cons.mpr ⟨⟨zmem (n := 190) (by decide +kernel), by decide +kernel, by decide +kernel⟩, List.forall_mem_cons.mpr ⟨⟨zmem (n := 192) (by decide +kernel), by decide +kernel, by decide +kernel⟩, fun _ h => absurd h List.not_mem_nil⟩⟩⟩⟩⟩⟩⟩⟩⟩⟩
theorem zFok_2 : ∀ q ∈ zFD.getD 2 [], zFok 2 q := List.forall_mem_cons.mpr ⟨⟨zmem (n := 392) (by decide +kernel), by decide +kernel, by decide +kernel⟩, List.forall_mem_cons.mpr ⟨⟨zmem (n := 394) (by decide +kernel), by decide +kernel, by decide +kernel⟩, List.forall_mem_cons.mpr ⟨⟨zmem (n := 395) (by decide +kernel), by decide +kernel, by decide +kernel⟩, List.forall_mem_cons.mpr ⟨⟨zmem (n := 397) (by decide +kernel), by decide +kernel, by decide +kernel⟩, List.forall_mem_cons.mpr ⟨⟨zmem (n := 398) (by decide +kernel), by decide +kernel, by decide +kernel⟩, List.forall_mem_cons.mpr ⟨⟨zmem (n := 400) (by decide +kernel), by decide +kernel, by decide +kernel⟩, fun _ h => absurd h List.not_mem_nil⟩⟩⟩⟩⟩⟩
theorem zFok_3 : ∀ q ∈ zFD.getD 3 [], zFok 3 q := List.forall_mem_cons.mpr ⟨⟨zmem (n := 273) (by decide +kernel), by decide +kernel, by decide +kernel⟩, List.forall_mem_cons.mpr ⟨⟨zmem (n := 278) (by decide +kernel), by decide +kernel, by decide +kernel⟩, List.forall_mem_cons.mpr ⟨⟨zmem (n := 281) (by decide +kernel), by decide +kernel, by decide +kernel⟩, List.forall_mem_cons.mpr ⟨⟨zmem (n := 283) (by decide +kernel), by decide +kernel, by decide +kernel⟩, List.forall_mem_cons.mpr ⟨⟨zmem (n := 285) (by decide +kernel), by decide +kernel, by decide +kernel⟩, List.forall_mem_cons.mpr ⟨⟨zmem (n := 193) (by decide +kernel), by decide +kernel, by decide +kernel⟩, List.forall_mem_cons.mpr ⟨⟨zmem (n := 183) (by decide +kernel), by decide +kernel, by decide +kernel⟩, List.forall_mem_cons.mpr ⟨⟨zmem (n := 226) (by decide +kernel), by decide +kernel, by decide +kernel⟩, List.forall_mem_cons.mpr ⟨⟨zmem (n := 237) (by decide +kernel), by decide +kernel, by decide +kernel⟩, List.forall_mem_cons.mpr ⟨⟨zmem (n := 230) (by decide +kernel), by decide +kernel, by decide +kernel⟩, List.forall_mem_cons.mpr ⟨⟨zmem (n := 176) (by decide +kernel), by decide +kernel, by decide +kernel⟩, List.forall_mem_cons.mpr ⟨⟨zmem (n := 189) (by decide +kernel), by decide +kernel, by decide +kernel⟩, fun _ h => absurd h List.not_mem_nil⟩⟩⟩⟩⟩⟩⟩⟩⟩⟩⟩⟩
theorem zFok_4 : ∀ q ∈ zFD.getD 4 [], zFok 4 q := List.forall_mem_cons.mpr ⟨⟨zmem (n := 228) (by decide +kernel), by decide +kernel, by decide +kernel⟩, List.forall_mem_cons.mpr ⟨⟨zmem (n := 232) (by decide +kernel), by decide +kernel, by decide +kernel⟩, List.forall_mem_cons.mpr ⟨⟨zmem (n := 235) (by decide +kernel), by decide +kernel, by decide +kernel⟩, List.forall_mem_cons.mpr ⟨⟨zmem (n := 224) (by decide +kernel), by decide +kernel, by decide +kernel⟩, fun _ h => absurd h List.not_mem_nil⟩⟩⟩⟩
theorem zFok_5 : ∀ q ∈ zFD.getD 5 [], zFok 5 q := List.forall_mem_cons.mpr ⟨⟨zmem (n := 256) (by decide +kernel), by decide +kernel, by decide +kernel⟩, List.forall_mem_cons.mpr ⟨⟨zmem (n := 257) (by decide +kernel), by decide +kernel, by decide +kernel⟩, List.forall_mem_cons.mpr ⟨⟨zmem (n := 254) (by decide +kernel), by decide +kernel, by decide +kernel⟩, List.forall_mem_cons.mpr ⟨⟨zmem (n := 258) (by decide +kernel), by decide +kernel, by decide +kernel⟩, List.forall_mem_cons.mpr ⟨⟨zmem (n := 260) (by decide +kernel), by decide +kernel, by decide +kernel⟩, List.forall_mem_cons.mpr ⟨⟨zmem (n := 277) (by decide +kernel), by decide +kernel, by decide +kernel⟩, fun _ h => absurd h List.not_mem_nil⟩⟩⟩⟩⟩⟩
theorem zFok_6 : ∀ q ∈ zFD.getD 6 [], zFok 6 q := List.forall_mem_cons.mpr ⟨⟨zmem (n := 377) (by decide +kernel), by decide +kernel, by decide +kernel⟩, List.forall_mem_cons.mpr ⟨⟨zmem (n := 375) (by decide +kernel), by decide +kernel, by decide +kernel⟩, List.forall_mem_cons.mpr ⟨⟨zmem (n := 275) (by decide +kernel), by decide +kernel, by decide +kernel⟩, List.forall_mem_cons.mpr ⟨⟨zmem (n := 181) (by decide +kernel), by decide +kernel, by decide +kernel⟩, fun _ h => absurd h List.not_mem_nil⟩⟩⟩⟩
theorem zFok_7 : ∀ q ∈ zFD.getD 7 [], zFok 7 q := List.forall_mem_cons.mpr ⟨⟨zmem (n := 320) (by decide +kernel), by decide +kernel, by decide +kernel⟩, List.forall_mem_cons.mpr ⟨⟨zmem (n := 326) (by decide +kernel), by decide +kernel, by decide +kernel⟩, List.forall_mem_cons.mpr ⟨⟨zmem (n := 141) (by decide +kernel), by decide +kernel, by decide +kernel⟩, List.forall_mem_cons.mpr ⟨⟨zmem (n := 322) (by decide +kernel), by decide +kernel, by decide +kernel⟩, List.forall_mem_cons.mpr ⟨⟨zmem (n := 324) (by decide +kernel), by decide +kernel, by decide +kernel⟩, List.forall_mem_cons.mpr ⟨⟨zmem (n := 325) (by decide +kernel), by decide +kernel, by decide +kernel⟩, List.forall_mem_cons.mpr ⟨⟨zmem (n := 327) (by decide +kernel), by decide +kernel, by decide +kernel⟩, List.forall_mem_cons.mpr ⟨⟨zmem (n := 304) (by decide +kernel), by decide +kernel, by decide +kernel⟩, List.forall_mem_cons.mpr ⟨⟨zmem (n := 144) (by decide +kernel), by decide +kernel, by decide +kernel⟩, List.forall_mem_cons.mpr ⟨⟨zmem (n := 146) (by decide +kernel), by decide +kernel, by decide +kernel⟩, List.forall_mem_cons.mpr ⟨⟨zmem (n := 148) (by decide +kernel), by decide +kernel, by decide +kernel⟩, List.forall_mem_cons.mpr ⟨⟨zmem (n := 150) (by decide +kernel), by decide +kernel, by decide +kernel⟩, List.forall_mem_cons.mpr ⟨⟨zmem (n := 323) (by decide +kernel), by decide +kernel, by decide +kernel⟩, List.forall_mem_cons.mpr ⟨⟨zmem (n := 152) (by decide +kernel), by decide +kernel, by decide +kernel⟩, fun _ h => absurd h List.not_mem_nil⟩⟩⟩⟩⟩⟩⟩⟩⟩⟩⟩⟩⟩⟩
theorem zFok_8 : ∀ q ∈ zFD.getD 8 [], zFok 8 q := List.forall_mem_cons.mpr ⟨⟨zmem (n := 143) (by decide +kernel), by decide +kernel, by decide +kernel⟩, List.forall_mem_cons.mpr ⟨⟨zmem (n := 145) (by decide +kernel), by decide +kernel, by decide +kernel⟩, List.forall_mem_cons.mpr ⟨⟨zmem (n := 147) (by decide +kernel), by decide +kernel, by decide +kernel⟩, List.forall_mem_cons.mpr ⟨⟨zmem (n := 149) (by decide +kernel), by decide +kernel, by decide +kernel⟩, List.forall_mem_cons.mpr ⟨⟨zmem (n := 151) (by decide +kernel), by decide +kernel, by decide +kernel⟩, List.forall_mem_cons.mpr ⟨⟨zmem (n := 153) (by decide +kernel), by decide +kernel, by decide +kernel⟩, List.forall_mem_cons.mpr ⟨⟨zmem (n := 154) (by decide +kernel), by decide +kernel, by decide +kernel⟩, List.forall_mem_cons.mpr ⟨⟨zmem (n := 140) (by decide +kernel), by decide +kernel, by decide +kernel⟩, fun _ h => absurd h List.not_mem_nil⟩⟩⟩⟩⟩⟩⟩⟩
theorem zFok_9 : ∀ q ∈ zFD.getD 9 [], zFok 9 q := List.forall_mem_cons.mpr ⟨⟨zmem (n := 353) (by decide +kernel), by decide +kernel, by decide +kernel⟩, List.forall_mem_cons.mpr ⟨⟨zmem (n := 355) (by decide +kernel), by decide +kernel, by decide +kernel⟩, List.forall_mem_cons.mpr ⟨⟨zmem (n := 357) (by decide +kernel), by decide +kernel, by decide +kernel⟩, List.forall_mem_cons.mpr ⟨⟨zmem (n := 351) (by decide +kernel), by decide +kernel, by decide +kernel⟩, List.forall_mem_cons.mpr ⟨⟨zmem (n := 279) (by decide +kernel), by decide +kernel, by decide +kernel⟩, List.forall_mem_cons.mpr ⟨⟨zmem (n := 225) (by decide +kernel), by decide +kernel, by decide +kernel⟩, List.forall_mem_cons.mpr ⟨⟨zmem (n := 236) (by decide +kernel), by decide +kernel, by decide +kernel⟩, List.forall_mem_cons.mpr ⟨⟨zmem (n := 229) (by decide +kernel), by decide +kernel, by decide +kernel⟩, List.forall_mem_cons.mpr ⟨⟨zmem (n := 276) (by decide +kernel), by decide +kernel, by decide +kernel⟩, List.forall_mem_cons.mpr ⟨⟨zmem (n := 175) (by decide +kernel), by decide +kernel, by decide +kernel⟩, List.forall_mem_cons.mpr ⟨⟨zmem (n := 233) (by decide +kernel), by decide +kernel, by decide +kernel⟩, fun _ h => absurd h List.not_mem_nil⟩⟩⟩⟩⟩⟩⟩⟩⟩⟩⟩
theorem zFok_10 : ∀ q ∈ zFD.getD 10 [], zFok 10 q := List.forall_mem_cons.mpr ⟨⟨zmem (n := 306) (by decide +kernel), by decide +kernel, by decide +kernel⟩, List.forall_mem_cons.mpr ⟨⟨zmem (n := 303) (by decide +kernel), by decide +kernel, by decide +kernel⟩, fun _ h => absurd h List.not_mem_nil⟩⟩
theorem zFok_11 : ∀ q ∈ zFD.getD 11 [], zFok 11 q := List.forall_mem_cons.mpr ⟨⟨zmem (n := 444) (by decide +kernel), by decide +kernel, by decide +kernel⟩, List.forall_mem_cons.mpr ⟨⟨zmem (n := 445) (by decide +kernel), by decide +kernel, by decide +kernel⟩, List.forall_mem_cons.mpr ⟨⟨zmem (n := 446) (by decide +kernel), by decide +kernel, by decide +kernel⟩, List.forall_mem_cons.mpr ⟨⟨zmem (n := 448) (by decide +kernel), by decide +kernel, by decide +kernel⟩, List.forall_mem_cons.mpr ⟨⟨zmem (n := 449) (by decide +kernel), by decide +kernel, by decide +kernel⟩, List.forall_mem_cons.mpr ⟨⟨zmem (n := 450) (by decide +kernel), by decide +kernel, by decide +kernel⟩, List.forall_mem_cons.mpr ⟨⟨zmem (n := 451) (by decide +kernel), by decide +kernel, by decide +kernel⟩, List.forall_mem_cons.mpr ⟨⟨zmem (n := 452) (by decide +kernel), by decide +kernel, by decide +kernel⟩, List.forall_mem_cons.mpr ⟨⟨zmem (n := 453) (by decide +kernel), by decide +kernel, by decide +kernel⟩, List.forall_mem_cons.mpr ⟨⟨zmem (n := 274) (by decide +kernel), by decide +kernel, by decide +kernel⟩, List.forall_mem_cons.mpr ⟨⟨zmem (n := 174) (by decide +kernel), by decide +kernel, by decide +kernel⟩, List.forall_mem_cons.mpr ⟨⟨zmem (n := 178) (by decide +kernel), by decide +kernel, by decide +kernel⟩, List.forall_mem_cons.mpr ⟨⟨zmem (n := 180) (by decide +kernel), by decide +kernel, by decide +kernel⟩, List.forall_mem_cons.mpr ⟨⟨zmem (n := 184) (by decide +kernel), by decide +kernel, by decide +kernel⟩, List.forall_mem_cons.mpr ⟨⟨zmem (n := 186) (by decide +kernel), by decide +kernel, by decide +kernel⟩, List.forall_mem_cons.mpr ⟨⟨zmem (n := 191) (by decide +kernel), by decide +kernel, by decide +kernel⟩, List.forall_mem_cons.mpr ⟨⟨zmem (n := 194) (by decide +kernel), by decide +kernel, by decide +kernel⟩, List.forall_mem_cons.mpr ⟨⟨zmem (n := 305) (by decide +kernel), by decide +kernel, by decide +kernel⟩, List.forall_mem_cons.mpr ⟨⟨zmem (n := 196) (by decide +kernel), by decide +kernel, by decide +kernel⟩, List.forall_mem_cons.mpr ⟨⟨zmem (n := 321) (by decide +kernel), by decide +kernel, by decide +kernel⟩, List.forall_mem_cons.mpr ⟨⟨zmem (n := 142) (by decide +kernel), by decide +kernel, by decide +kernel⟩, List.forall_mem_cons.mpr ⟨⟨zmem (n := 280) (by decide +kernel), by decide +kernel, by decide +kernel⟩, List.forall_mem_cons.mpr ⟨⟨zmem (n := 227) (by decide +kernel), by decide +kernel, by decide +kernel⟩, List.forall_mem_cons.mpr ⟨⟨zmem (n := 231) (by decide +kernel), by decide +kernel, by decide +kernel⟩, List.forall_mem_cons.mpr ⟨⟨zmem (n := 234) (by decide +kernel), by decide +kernel, by decide +kernel⟩, List.forall_mem_cons.mpr ⟨⟨zmem (n := 238) (by decide +kernel), by decide +kernel, by decide +kernel⟩, List.forall_mem_cons.mpr ⟨⟨zmem (n := 352) (by decide +kernel), by decide +kernel, by decide +kernel⟩, List.forall_mem_cons.mpr ⟨⟨zmem (n := 356) (by decide +kernel), by decide +kernel, by decide +kernel⟩, List.forall_mem_cons.mpr ⟨⟨zmem (n := 354) (by decide +kernel), by decide +kernel, by decide +kernel⟩, List.forall_mem_cons.mpr ⟨⟨zmem (n := 282) (by decide +kernel), by decide +kernel, by decide +kernel⟩, List.forall_mem_cons.mpr ⟨⟨zmem (n := 255) (by decide +kernel), by decide +kernel, by decide +kernel⟩, List.forall_mem_cons.mpr ⟨⟨zmem (n := 259) (by decide +kernel), by decide +kernel, by decide +kernel⟩, List.forall_mem_cons.mpr ⟨⟨zmem (n := 261) (by decide +kernel), by decide +kernel, by decide +kernel⟩, List.forall_mem_cons.mpr ⟨⟨zmem (n := 284) (by decide +kernel), by decide +kernel, by decide +kernel⟩, List.forall_mem_cons.mpr ⟨⟨zmem (n := 376) (by decide +kernel), by decide +kernel, by decide +kernel⟩, List.forall_mem_cons.mpr ⟨⟨zmem (n := 378) (by decide +kernel), by decide +kernel, by decide +kernel⟩, List.forall_mem_cons.mpr ⟨⟨zmem (n := 393) (by decide +kernel), by decide +kernel, by decide +kernel⟩, List.forall_mem_cons.mpr ⟨⟨zmem (n := 396) (by decide +kernel), by decide +kernel, by decide +kernel⟩, List.forall_mem_cons.mpr ⟨⟨zmem (n := 401) (by decide +kernel), by decide +kernel, by decide +kernel⟩, List.forall_mem_cons.mpr ⟨⟨zmem (n := 399) (by decide +kernel), by decide +kernel, by decide +kernel⟩, List.forall_mem_cons.mpr ⟨⟨zmem (n := 423) (by decide +kernel), by decide +kernel, by decide +kernel⟩, List.forall_mem_cons.mpr ⟨⟨zmem (n := 427) (by decide +kernel), by decide +kernel, by decide +kernel⟩, List.forall_mem_cons.mpr ⟨⟨zmem (n := 425) (by decide +kernel), by decide +kernel, by decide +kernel⟩, List.forall_mem_cons.mpr ⟨⟨zmem (n := 447) (by decide +kernel), by decide +kernel, by decide +kernel⟩, fun _ h => absurd h List.not_mem_nil⟩⟩⟩⟩⟩⟩⟩⟩⟩⟩⟩⟩⟩⟩⟩⟩⟩⟩⟩⟩⟩⟩⟩⟩⟩⟩⟩⟩⟩⟩⟩⟩⟩⟩⟩⟩⟩⟩⟩⟩⟩⟩⟩⟩
theorem zFok_12 : ∀ q ∈ zFD.getD 12 [], zFok 12 q := List.forall_mem_cons.mpr ⟨⟨zmem (n := 1181) (by decide +kernel), by decide +kernel, by decide +kernel⟩, List.forall_mem_cons.mpr ⟨⟨zmem (n := 1182) (by decide +kernel), by decide +kernel, by decide +kernel⟩, List.forall_mem_cons.mpr ⟨⟨zmem (n := 1183) (by decide +kernel), by decide +kernel, by decide +kernel⟩, List.forall_mem_cons.mpr ⟨⟨zmem (n := 1185) (by decide +kernel), by decide +kernel, by decide +kernel⟩, List.forall_mem_cons.mpr ⟨⟨zmem (n := 1186) (by decide +kernel), by decide +kernel, by decide +kernel⟩, List.forall_mem_cons.mpr ⟨⟨zmem (n := 1187) (by decide +kernel), by decide +kernel, by decide +kernel⟩, List.forall_mem_cons.mpr ⟨⟨zmem (n := 1188) (by decide +kernel), by decide +kernel, by decide +kernel⟩, List.forall_mem_cons.mpr ⟨⟨zmem (n := 1189) (by decide +kernel), by decide +kernel, by decide +kernel⟩, List.forall_mem_cons.mpr ⟨⟨zmem (n := 1190) (by decide +kernel), by decide +kernel, by decide +kernel⟩, List.forall_mem_cons.mpr ⟨⟨zmem (n := 1191) (by decide +kernel), by decide +kernel, by decide +kernel⟩, List.forall_mem_cons.mpr ⟨⟨zmem (n := 1196) (by decide +kernel), by decide +kernel, by decide +kernel⟩, List.forall_mem_cons.mpr ⟨⟨zmem (n := 1198) (by decide +kernel), by decide +kernel, by decide +kernel⟩, List.forall_mem_cons.mpr ⟨⟨zmem (n := 1206) (by decide +kernel), by decide +kernel, by decide +kernel⟩, List.forall_mem_cons.mpr ⟨⟨zmem (n := 1207) (by decide +kernel), by decide +kernel, by decide +kernel⟩, List.forall_mem_cons.mpr ⟨⟨zmem (n := 1208) (by decide +kernel), by decide +kernel, by decide +kernel⟩, List.forall_mem_cons.mpr ⟨⟨zmem (n := 1209) (by decide +kernel), by decide +kernel, by decide +kernel⟩, List.forall_mem_cons.mpr ⟨⟨zmem (n := 1210) (by decide +kernel), by decide +kernel, by decide +kernel⟩, List.forall_mem_cons.mpr ⟨⟨zmem (n := 1211) (by decide +kernel), by decide +kernel, by decide +kernel⟩, List.forall_mem_cons.mpr ⟨⟨zmem (n := 1212) (by decide +kernel), by decide +kernel, by decide +kernel⟩, List.forall_mem_cons.mpr ⟨⟨zmem (n := 1192) (by decide +kernel), by decide +kernel, by decide +kernel⟩, List.forall_mem_cons.mpr ⟨⟨zmem (n := 1193) (by decide +kernel), by decide +kernel, by decide +kernel⟩, List.forall_mem_cons.mpr ⟨⟨zmem (n := 1194) (by decide +kernel), by decide +kernel, by decide +kernel⟩, List.forall_mem_cons.mpr ⟨⟨zmem (n := 1195) (by decide +kernel), by decide +kernel, by decide +kernel⟩, List.forall_mem_cons.mpr ⟨⟨zmem (n := 1197) (by decide +kernel), by decide +kernel, by decide +kernel⟩, List.forall_mem_cons.mpr ⟨⟨zmem (n := 1199) (by decide +kernel), by decide +kernel, by decide +kernel⟩, List.forall_mem_cons.mpr ⟨⟨zmem (n := 1201) (by decide +kernel), by decide +kernel, by decide +kernel⟩, List.forall_mem_cons.mpr ⟨⟨zmem (n := 1200) (by decide +kernel), by decide +kernel, by decide +kernel⟩, List.forall_mem_cons.mpr ⟨⟨zmem (n := 1205) (by decide +kernel), by decide +kernel, by decide +kernel⟩, List.forall_mem_cons.mpr ⟨⟨zmem (n := 1202) (by decide +kernel), by decide +kernel, by decide +kernel⟩, List.forall_mem_cons.mpr ⟨⟨zmem (n := 1204) (by decide +kernel), by decide +kernel, by decide +kernel⟩, List.forall_mem_cons.mpr ⟨⟨zmem (n := 1203) (by decide +kernel), by decide +kernel, by decide +kernel⟩, List.forall_mem_cons.mpr ⟨⟨zmem (n := 1217) (by decide +kernel), by decide +kernel, by decide +kernel⟩, List.forall_mem_cons.mpr ⟨⟨zmem (n := 1213) (by decide +kernel), by decide +kernel, by decide +kernel⟩, List.forall_mem_cons.mpr ⟨⟨zmem (n := 1216) (by decide +kernel), by decide +kernel, by decide +kernel⟩, List.forall_mem_cons.mpr ⟨⟨zmem (n := 1214) (by decide +kernel), by decide +kernel, by decide +kernel⟩, List.forall_mem_cons.mpr ⟨⟨zmem (n := 1215) (by decide +kernel), by decide +kernel, by decide +kernel⟩, List.forall_mem_cons.mpr ⟨⟨zmem (n := 1184) (by decide +kernel), by decide +kernel, by decide +kernel⟩, fun _ h => absurd h List.not_mem_nil⟩⟩⟩⟩⟩⟩⟩⟩⟩⟩⟩⟩⟩⟩⟩⟩⟩⟩⟩⟩⟩⟩⟩⟩⟩⟩⟩⟩⟩⟩⟩⟩⟩⟩⟩⟩⟩
theorem zFok_13 : ∀ q ∈ zFD.getD 13 [], zFok 13 q := fun _ h => absurd h List.not_mem_nil
theorem zFok_14 : ∀ q ∈ zFD.getD 14 [], zFok 14 q := fun _ h => absurd h List.not_mem_nil
theorem zFok_15 : ∀ q ∈ zFD.getD 15 [], zFok 15 q := fun _ h => absurd h List.not_mem_nil
theorem zFok_16 : ∀ q ∈ zFD.getD 16 [], zFok 16 q := List.forall_mem_cons.mpr ⟨⟨zmem (n := 1810) (by decide +kernel), by decide +kernel, by decide +kernel⟩, List.forall_mem_cons.mpr ⟨⟨zmem (n := 1811) (by decide +kernel), by decide +kernel, by decide +kernel⟩, List.forall_mem_cons.mpr ⟨⟨zmem (n := 616) (by decide +kernel), by decide +kernel, by decide +kernel⟩, List.forall_mem_cons.mpr ⟨⟨zmem (n := 632) (by decide +kernel), by decide +kernel, by decide +kernel⟩, fun _ h => absurd h List.not_mem_nil⟩⟩⟩⟩
theorem zFok_17 : ∀ q ∈ zFD.getD 17 [], zFok 17 q := fun _ h => absurd h List.not_mem_nil
theorem zFok_18 : ∀ q ∈ zFD.getD 18 [], zFok 18 q := fun _ h => absurd h List.not_mem_nil
theorem zFok_all : ∀ (own : Nat) (q : Nat × Nat × Nat), q ∈ zFD.getD own [] → zFok own q
  | 0, q, h => zFok_0 q h
  | 1, q, h => zFok_1 q h
  | 2, q, h => zFok_2 q h
  | 3, q, h => zFok_3 q h
  | 4, q, h => zFok_4 q h
  | 5, q, h => zFok_5 q h
  | 6, q, h => zFok_6 q h
  | 7, q, h => zFok_7 q h
  | 8, q, h => zFok_8 q h
  | 9, q, h => zFok_9 q h
  | 10, q, h => zFok_10 q h
  | 11, q, h => zFok_11 q h
  | 12, q, h => zFok_12 q h
  | 13, q, h => zFok_13 q h
  | 14, q, h => zFok_14 q h
  | 15, q, h => zFok_15 q h
  | 16, q, h => zFok_16 q h
  | 17, q, h => zFok_17 q h
  | 18, q, h => zFok_18 q h
  | n + 19, _, h => absurd h List.not_mem_nil
noncomputable def zY (j : Nat) : MethodName := (zME.getD j (arraycopyName, ⟨#[]⟩, 0, none)).1
/-- a call's words -/
def zMok (own : Nat) (q : Nat × Nat × Nat × Nat) : Prop := (Cond.methodLink (zcn own) q.1 (zY q.2.1) ∈ zGW ∨ ∃ host, (zcn own, q.1, zY q.2.1, host) ∈ zNest ∧ q.2.2.2 = 0) ∧ (q.2.2.2 = 0 → Cond.static (zY q.2.1) ∈ zGW) ∧ (∀ c, q.2.2.2 = c + 1 → Cond.instanceMethod (zY q.2.1) ∈ zGW ∧ Cond.selects (zcn c) (zY q.2.1) (zY q.2.1) ∈ zGW ∧ (zY q.2.1).cls = zcn c) ∧ (parseMethodDescriptor (zY q.2.1).desc).map (fun d => d.parameters.length) = some (q.2.2.1 - (if q.2.2.2 = 0 then 0 else 1)) ∧ (q.2.2.2 = 0 ∨ 0 < q.2.2.1) ∧ q.2.1 ≤ zNAC ∧ (q.2.1 = zNAC → Cond.methodLink (zcn own) q.1 arraycopyName ∈ zGW ∧ q.2.2.2 = 0 ∧ q.2.2.1 = 5)
theorem zMok_0 : ∀ q ∈ zMD.getD 0 [], zMok 0 q := List.forall_mem_cons.mpr ⟨⟨Or.inl (zmem (n := 1120) (by decide +kernel)), fun h => absurd h (by decide +kernel), fun c h => by cases h; exact ⟨zmem (n := 1122) (by decide +kernel), zmem (n := 28) (by decide +kernel), by decide +kernel⟩, by decide +kernel, by decide +kernel, by decide +kernel, fun h => absurd h (by decide +kernel)⟩, List.forall_mem_cons.mpr ⟨⟨Or.inl (zmem (n := 1124) (by decide +kernel)), fun h => absurd h (by decide +kernel), fun c h => by cases h; exact ⟨zmem (n := 1126) (by decide +kernel), zmem (n := 29) (by decide +kernel), by decide +kernel⟩, by decide +kernel, by decide +kernel, by decide +kernel, fun h => absurd h (by decide +kernel)⟩, List.forall_mem_cons.mpr ⟨⟨Or.inl (zmem (n := 1132) (by decide +kernel)), fun h => absurd h (by decide +kernel), fun c h => by cases h; exact ⟨zmem (n := 1134) (by decide +kernel), zmem (n := 30) (by decide +kernel), by decide +kernel⟩, by decide +kernel, by decide +kernel, by decide +kernel, fun h => absurd h (by decide +kernel)⟩, List.forall_mem_cons.mpr ⟨⟨Or.inl (zmem (n := 1141) (by decide +kernel)), fun h => absurd h (by decide +kernel), fun c h => by cases h; exact ⟨zmem (n := 1143) (by decide +kernel), zmem (n := 31) (by decide +kernel), by decide +kernel⟩, by decide +kernel, by decide +kernel, by decide +kernel, fun h => absurd h (by decide +kernel)⟩, List.forall_mem_cons.mpr ⟨⟨Or.inl (zmem (n := 1136) (by decide +kernel)), fun h => absurd h (by decide +kernel), fun c h => by cases h; exact ⟨zmem (n := 1117) (by decide +kernel), zmem (n := 1118) (by decide +kernel), by decide +kernel⟩, by decide +kernel, by decide +kernel, by decide +kernel, fun h => absurd h (by decide +kernel)⟩, List.forall_mem_cons.mpr ⟨⟨Or.inl (zmem (n := 1145) (by decide +kernel)), fun h => absurd h (by decide +kernel), fun c h => by cases h; exact ⟨zmem (n := 1147) (by decide +kernel), zmem (n := 32) (by decide +kernel), by decide +kernel⟩, by decide +kernel, by decide +kernel, by decide +kernel, fun h => absurd h (by decide +kernel)⟩, List.forall_mem_cons.mpr ⟨⟨Or.inl (zmem (n := 1153) (by decide +kernel)), fun h => absurd h (by decide +kernel), fun c h => by cases h; exact ⟨zmem (n := 1155) (by decide +kernel), zmem (n := 33) (by decide +kernel), by decide +kernel⟩, by decide +kernel, by decide +kernel, by decide +kernel, fun h => absurd h (by decide +kernel)⟩, List.forall_mem_cons.mpr ⟨⟨Or.inl (zmem (n := 1158) (by decide +kernel)), fun h => absurd h (by decide +kernel), fun c h => by cases h; exact ⟨zmem (n := 1138) (by decide +kernel), zmem (n := 1139) (by decide +kernel), by decide +kernel⟩, by decide +kernel, by decide +kernel, by decide +kernel, fun h => absurd h (by decide +kernel)⟩, List.forall_mem_cons.mpr ⟨⟨Or.inl (zmem (n := 1157) (by decide +kernel)), fun h => absurd h (by decide +kernel), fun c h => by cases h; exact ⟨zmem (n := 1129) (by decide +kernel), zmem (n := 1130) (by decide +kernel), by decide +kernel⟩, by decide +kernel, by decide +kernel, by decide +kernel, fun h => absurd h (by decide +kernel)⟩, fun _ h => absurd h List.not_mem_nil⟩⟩⟩⟩⟩⟩⟩⟩⟩
theorem zMok_1 : ∀ q ∈ zMD.getD 1 [], zMok 1 q := List.forall_mem_cons.mpr ⟨⟨Or.inr ⟨"OakCourt", by decide +kernel, rfl⟩, fun _ => zmem (n := 739) (by decide +kernel), fun _ h => absurd h.symm (Nat.succ_ne_zero _), by decide +kernel, by decide +kernel, by decide +kernel, fun h => absurd h (by decide +kernel)⟩, List.forall_mem_cons.mpr ⟨⟨Or.inl (zmem (n := 826) (by decide +kernel)), fun h => absurd h (by decide +kernel), fun c h => by cases h; exact ⟨zmem (n := 735) (by decide +kernel), zmem (n := 736) (by decide +kernel), by decide +kernel⟩, by decide +kernel, by decide +kernel, by decide +kernel, fun h => absurd h (by decide +kernel)⟩, List.forall_mem_cons.mpr ⟨⟨Or.inl (zmem (n := 493) (by decide +kernel)), fun h => absurd h (by decide +kernel), fun c h => by cases h; exact ⟨zmem (n := 486) (by decide +kernel), zmem (n := 487) (by decide +kernel), by decide +kernel⟩, by decide +kernel, by decide +kernel, by decide +kernel, fun h => absurd h (by decide +kernel)⟩, List.forall_mem_cons.mpr ⟨⟨Or.inr ⟨"OakCourt", by decide +kernel, rfl⟩, fun _ => zmem (n := 495) (by decide +kernel), fun _ h => absurd h.symm (Nat.succ_ne_zero _), by decide +kernel, by decide +kernel, by decide +kernel, fun h => absurd h (by decide +kernel)⟩, List.forall_mem_cons.mpr ⟨⟨Or.inl (zmem (n := 509) (by decide +kernel)), fun h => absurd h (by decide +kernel), fun c h => by cases h; exact ⟨zmem (n := 510) (by decide +kernel), zmem (n := 511) (by decide +kernel), by decide +kernel⟩, by decide +kernel, by decide +kernel, by decide +kernel, fun h => absurd h (by decide +kernel)⟩, List.forall_mem_cons.mpr ⟨⟨Or.inl (zmem (n := 513) (by decide +kernel)), fun h => absurd h (by decide +kernel), fun c h => by cases h; exact ⟨zmem (n := 514) (by decide +kernel), zmem (n := 515) (by decide +kernel), by decide +kernel⟩, by decide +kernel, by decide +kernel, by decide +kernel, fun h => absurd h (by decide +kernel)⟩, List.forall_mem_cons.mpr ⟨⟨Or.inl (zmem (n := 534) (by decide +kernel)), fun _ => zmem (n := 532) (by decide +kernel), fun _ h => absurd h.symm (Nat.succ_ne_zero _), by decide +kernel, by decide +kernel, by decide +kernel, fun h => absurd h (by decide +kernel)⟩, fun _ h => absurd h List.not_mem_nil⟩⟩⟩⟩⟩⟩⟩
theorem zMok_2 : ∀ q ∈ zMD.getD 2 [], zMok 2 q := fun _ h => absurd h List.not_mem_nil
theorem zMok_3 : ∀ q ∈ zMD.getD 3 [], zMok 3 q := List.forall_mem_cons.mpr ⟨⟨Or.inl (zmem (n := 821) (by decide +kernel)), fun h => absurd h (by decide +kernel), fun c h => by cases h; exact ⟨zmem (n := 822) (by decide +kernel), zmem (n := 823) (by decide +kernel), by decide +kernel⟩, by decide +kernel, by decide +kernel, by decide +kernel, fun h => absurd h (by decide +kernel)⟩, List.forall_mem_cons.mpr ⟨⟨Or.inl (zmem (n := 827) (by decide +kernel)), fun h => absurd h (by decide +kernel), fun c h => by cases h; exact ⟨zmem (n := 828) (by decide +kernel), zmem (n := 829) (by decide +kernel), by decide +kernel⟩, by decide +kernel, by decide +kernel, by decide +kernel, fun h => absurd h (by decide +kernel)⟩, List.forall_mem_cons.mpr ⟨⟨Or.inl (zmem (n := 832) (by decide +kernel)), fun h => absurd h (by decide +kernel), fun c h => by cases h; exact ⟨zmem (n := 833) (by decide +kernel), zmem (n := 834) (by decide +kernel), by decide +kernel⟩, by decide +kernel, by decide +kernel, by decide +kernel, fun h => absurd h (by decide +kernel)⟩, List.forall_mem_cons.mpr ⟨⟨Or.inl (zmem (n := 539) (by decide +kernel)), fun h => absurd h (by decide +kernel), fun c h => by cases h; exact ⟨zmem (n := 540) (by decide +kernel), zmem (n := 541) (by decide +kernel), by decide +kernel⟩, by decide +kernel, by decide +kernel, by decide +kernel, fun h => absurd h (by decide +kernel)⟩, List.forall_mem_cons.mpr ⟨⟨Or.inl (zmem (n := 549) (by decide +kernel)), fun h => absurd h (by decide +kernel), fun c h => by cases h; exact ⟨zmem (n := 506) (by decide +kernel), zmem (n := 507) (by decide +kernel), by decide +kernel⟩, by decide +kernel, by decide +kernel, by decide +kernel, fun h => absurd h (by decide +kernel)⟩, List.forall_mem_cons.mpr ⟨⟨Or.inl (zmem (n := 548) (by decide +kernel)), fun h => absurd h (by decide +kernel), fun c h => by cases h; exact ⟨zmem (n := 536) (by decide +kernel), zmem (n := 537) (by decide +kernel), by decide +kernel⟩, by decide +kernel, by decide +kernel, by decide +kernel, fun h => absurd h (by decide +kernel)⟩, List.forall_mem_cons.mpr ⟨⟨Or.inl (zmem (n := 547) (by decide +kernel)), fun h => absurd h (by decide +kernel), fun c h => by cases h; exact ⟨zmem (n := 490) (by decide +kernel), zmem (n := 491) (by decide +kernel), by decide +kernel⟩, by decide +kernel, by decide +kernel, by decide +kernel, fun h => absurd h (by decide +kernel)⟩, List.forall_mem_cons.mpr ⟨⟨Or.inl (zmem (n := 857) (by decide +kernel)), fun _ => zmem (n := 742) (by decide +kernel), fun _ h => absurd h.symm (Nat.succ_ne_zero _), by decide +kernel, by decide +kernel, by decide +kernel, fun h => absurd h (by decide +kernel)⟩, List.forall_mem_cons.mpr ⟨⟨Or.inl (zmem (n := 858) (by decide +kernel)), fun _ => zmem (n := 532) (by decide +kernel), fun _ h => absurd h.symm (Nat.succ_ne_zero _), by decide +kernel, by decide +kernel, by decide +kernel, fun h => absurd h (by decide +kernel)⟩, List.forall_mem_cons.mpr ⟨⟨Or.inl (zmem (n := 803) (by decide +kernel)), fun h => absurd h (by decide +kernel), fun c h => by cases h; exact ⟨zmem (n := 780) (by decide +kernel), zmem (n := 781) (by decide +kernel), by decide +kernel⟩, by decide +kernel, by decide +kernel, by decide +kernel, fun h => absurd h (by decide +kernel)⟩, List.forall_mem_cons.mpr ⟨⟨Or.inl (zmem (n := 804) (by decide +kernel)), fun h => absurd h (by decide +kernel), fun c h => by cases h; exact ⟨zmem (n := 792) (by decide +kernel), zmem (n := 793) (by decide +kernel), by decide +kernel⟩, by decide +kernel, by decide +kernel, by decide +kernel, fun h => absurd h (by decide +kernel)⟩, List.forall_mem_cons.mpr ⟨⟨Or.inl (zmem (n := 805) (by decide +kernel)), fun h => absurd h (by decide +kernel), fun c h => by cases h; exact ⟨zmem (n := 807) (by decide +kernel), zmem (n := 18) (by decide +kernel), by decide +kernel⟩, by decide +kernel, by decide +kernel, by decide +kernel, fun h => absurd h (by decide +kernel)⟩, List.forall_mem_cons.mpr ⟨⟨Or.inl (zmem (n := 809) (by decide +kernel)), fun h => absurd h (by decide +kernel), fun c h => by cases h; exact ⟨zmem (n := 810) (by decide +kernel), zmem (n := 811) (by decide +kernel), by decide +kernel⟩, by decide +kernel, by decide +kernel, by decide +kernel, fun h => absurd h (by decide +kernel)⟩, fun _ h => absurd h List.not_mem_nil⟩⟩⟩⟩⟩⟩⟩⟩⟩⟩⟩⟩⟩
theorem zMok_4 : ∀ q ∈ zMD.getD 4 [], zMok 4 q := List.forall_mem_cons.mpr ⟨⟨Or.inr ⟨"OakCourt", by decide +kernel, rfl⟩, fun _ => zmem (n := 739) (by decide +kernel), fun _ h => absurd h.symm (Nat.succ_ne_zero _), by decide +kernel, by decide +kernel, by decide +kernel, fun h => absurd h (by decide +kernel)⟩, fun _ h => absurd h List.not_mem_nil⟩
theorem zMok_5 : ∀ q ∈ zMD.getD 5 [], zMok 5 q := List.forall_mem_cons.mpr ⟨⟨Or.inr ⟨"OakCourt", by decide +kernel, rfl⟩, fun _ => zmem (n := 739) (by decide +kernel), fun _ h => absurd h.symm (Nat.succ_ne_zero _), by decide +kernel, by decide +kernel, by decide +kernel, fun h => absurd h (by decide +kernel)⟩, List.forall_mem_cons.mpr ⟨⟨Or.inl (zmem (n := 974) (by decide +kernel)), fun h => absurd h (by decide +kernel), fun c h => by cases h; exact ⟨zmem (n := 976) (by decide +kernel), zmem (n := 26) (by decide +kernel), by decide +kernel⟩, by decide +kernel, by decide +kernel, by decide +kernel, fun h => absurd h (by decide +kernel)⟩, List.forall_mem_cons.mpr ⟨⟨Or.inl (zmem (n := 978) (by decide +kernel)), fun h => absurd h (by decide +kernel), fun c h => by cases h; exact ⟨zmem (n := 490) (by decide +kernel), zmem (n := 491) (by decide +kernel), by decide +kernel⟩, by decide +kernel, by decide +kernel, by decide +kernel, fun h => absurd h (by decide +kernel)⟩, List.forall_mem_cons.mpr ⟨⟨Or.inl (zmem (n := 979) (by decide +kernel)), fun h => absurd h (by decide +kernel), fun c h => by cases h; exact ⟨zmem (n := 784) (by decide +kernel), zmem (n := 785) (by decide +kernel), by decide +kernel⟩, by decide +kernel, by decide +kernel, by decide +kernel, fun h => absurd h (by decide +kernel)⟩, List.forall_mem_cons.mpr ⟨⟨Or.inl (zmem (n := 980) (by decide +kernel)), fun h => absurd h (by decide +kernel), fun c h => by cases h; exact ⟨zmem (n := 854) (by decide +kernel), zmem (n := 855) (by decide +kernel), by decide +kernel⟩, by decide +kernel, by decide +kernel, by decide +kernel, fun h => absurd h (by decide +kernel)⟩, List.forall_mem_cons.mpr ⟨⟨Or.inl (zmem (n := 981) (by decide +kernel)), fun _ => zmem (n := 532) (by decide +kernel), fun _ h => absurd h.symm (Nat.succ_ne_zero _), by decide +kernel, by decide +kernel, by decide +kernel, fun h => absurd h (by decide +kernel)⟩, List.forall_mem_cons.mpr ⟨⟨Or.inl (zmem (n := 982) (by decide +kernel)), fun _ => zmem (n := 742) (by decide +kernel), fun _ h => absurd h.symm (Nat.succ_ne_zero _), by decide +kernel, by decide +kernel, by decide +kernel, fun h => absurd h (by decide +kernel)⟩, fun _ h => absurd h List.not_mem_nil⟩⟩⟩⟩⟩⟩⟩
theorem zMok_6 : ∀ q ∈ zMD.getD 6 [], zMok 6 q := List.forall_mem_cons.mpr ⟨⟨Or.inl (zmem (n := 1018) (by decide +kernel)), fun h => absurd h (by decide +kernel), fun c h => by cases h; exact ⟨zmem (n := 486) (by decide +kernel), zmem (n := 487) (by decide +kernel), by decide +kernel⟩, by decide +kernel, by decide +kernel, by decide +kernel, fun h => absurd h (by decide +kernel)⟩, List.forall_mem_cons.mpr ⟨⟨Or.inl (zmem (n := 1019) (by decide +kernel)), fun h => absurd h (by decide +kernel), fun c h => by cases h; exact ⟨zmem (n := 536) (by decide +kernel), zmem (n := 537) (by decide +kernel), by decide +kernel⟩, by decide +kernel, by decide +kernel, by decide +kernel, fun h => absurd h (by decide +kernel)⟩, List.forall_mem_cons.mpr ⟨⟨Or.inl (zmem (n := 1020) (by decide +kernel)), fun h => absurd h (by decide +kernel), fun c h => by cases h; exact ⟨zmem (n := 506) (by decide +kernel), zmem (n := 507) (by decide +kernel), by decide +kernel⟩, by decide +kernel, by decide +kernel, by decide +kernel, fun h => absurd h (by decide +kernel)⟩, fun _ h => absurd h List.not_mem_nil⟩⟩⟩
theorem zMok_7 : ∀ q ∈ zMD.getD 7 [], zMok 7 q := List.forall_mem_cons.mpr ⟨⟨Or.inl (zmem (n := 581) (by decide +kernel)), fun h => absurd h (by decide +kernel), fun c h => by cases h; exact ⟨zmem (n := 582) (by decide +kernel), zmem (n := 583) (by decide +kernel), by decide +kernel⟩, by decide +kernel, by decide +kernel, by decide +kernel, fun h => absurd h (by decide +kernel)⟩, List.forall_mem_cons.mpr ⟨⟨Or.inl (zmem (n := 585) (by decide +kernel)), fun h => absurd h (by decide +kernel), fun c h => by cases h; exact ⟨zmem (n := 586) (by decide +kernel), zmem (n := 587) (by decide +kernel), by decide +kernel⟩, by decide +kernel, by decide +kernel, by decide +kernel, fun h => absurd h (by decide +kernel)⟩, List.forall_mem_cons.mpr ⟨⟨Or.inl (zmem (n := 595) (by decide +kernel)), fun h => absurd h (by decide +kernel), fun c h => by cases h; exact ⟨zmem (n := 596) (by decide +kernel), zmem (n := 597) (by decide +kernel), by decide +kernel⟩, by decide +kernel, by decide +kernel, by decide +kernel, fun h => absurd h (by decide +kernel)⟩, List.forall_mem_cons.mpr ⟨⟨Or.inl (zmem (n := 677) (by decide +kernel)), fun h => absurd h (by decide +kernel), fun c h => by cases h; exact ⟨zmem (n := 679) (by decide +kernel), zmem (n := 5) (by decide +kernel), by decide +kernel⟩, by decide +kernel, by decide +kernel, by decide +kernel, fun h => absurd h (by decide +kernel)⟩, List.forall_mem_cons.mpr ⟨⟨Or.inl (zmem (n := 681) (by decide +kernel)), fun h => absurd h (by decide +kernel), fun c h => by cases h; exact ⟨zmem (n := 683) (by decide +kernel), zmem (n := 6) (by decide +kernel), by decide +kernel⟩, by decide +kernel, by decide +kernel, by decide +kernel, fun h => absurd h (by decide +kernel)⟩, List.forall_mem_cons.mpr ⟨⟨Or.inl (zmem (n := 686) (by decide +kernel)), fun h => absurd h (by decide +kernel), fun c h => by cases h; exact ⟨zmem (n := 688) (by decide +kernel), zmem (n := 7) (by decide +kernel), by decide +kernel⟩, by decide +kernel, by decide +kernel, by decide +kernel, fun h => absurd h (by decide +kernel)⟩, List.forall_mem_cons.mpr ⟨⟨Or.inl (zmem (n := 690) (by decide +kernel)), fun h => absurd h (by decide +kernel), fun c h => by cases h; exact ⟨zmem (n := 692) (by decide +kernel), zmem (n := 8) (by decide +kernel), by decide +kernel⟩, by decide +kernel, by decide +kernel, by decide +kernel, fun h => absurd h (by decide +kernel)⟩, List.forall_mem_cons.mpr ⟨⟨Or.inl (zmem (n := 702) (by decide +kernel)), fun h => absurd h (by decide +kernel), fun c h => by cases h; exact ⟨zmem (n := 704) (by decide +kernel), zmem (n := 11) (by decide +kernel), by decide +kernel⟩, by decide +kernel, by decide +kernel, by decide +kernel, fun h => absurd h (by decide +kernel)⟩, List.forall_mem_cons.mpr ⟨⟨Or.inl (zmem (n := 706) (by decide +kernel)), fun h => absurd h (by decide +kernel), fun c h => by cases h; exact ⟨zmem (n := 708) (by decide +kernel), zmem (n := 12) (by decide +kernel), by decide +kernel⟩, by decide +kernel, by decide +kernel, by decide +kernel, fun h => absurd h (by decide +kernel)⟩, List.forall_mem_cons.mpr ⟨⟨Or.inl (zmem (n := 710) (by decide +kernel)), fun h => absurd h (by decide +kernel), fun c h => by cases h; exact ⟨zmem (n := 712) (by decide +kernel), zmem (n := 13) (by decide +kernel), by decide +kernel⟩, by decide +kernel, by decide +kernel, by decide +kernel, fun h => absurd h (by decide +kernel)⟩, List.forall_mem_cons.mpr ⟨⟨Or.inl (zmem (n := 721) (by decide +kernel)), fun h => absurd h (by decide +kernel), fun c h => by cases h; exact ⟨zmem (n := 723) (by decide +kernel), zmem (n := 15) (by decide +kernel), by decide +kernel⟩, by decide +kernel, by decide +kernel, by decide +kernel, fun h => absurd h (by decide +kernel)⟩, List.forall_mem_cons.mpr ⟨⟨Or.inl (zmem (n := 725) (by decide +kernel)), fun h => absurd h (by decide +kernel), fun c h => by cases h; exact ⟨zmem (n := 727) (by decide +kernel), zmem (n := 16) (by decide +kernel), by decide +kernel⟩, by decide +kernel, by decide +kernel, by decide +kernel, fun h => absurd h (by decide +kernel)⟩, List.forall_mem_cons.mpr ⟨⟨Or.inl (zmem (n := 729) (by decide +kernel)), fun h => absurd h (by decide +kernel), fun c h => by cases h; exact ⟨zmem (n := 731) (by decide +kernel), zmem (n := 17) (by decide +kernel), by decide +kernel⟩, by decide +kernel, by decide +kernel, by decide +kernel, fun h => absurd h (by decide +kernel)⟩, List.forall_mem_cons.mpr ⟨⟨Or.inr ⟨"OakCourt", by decide +kernel, rfl⟩, fun _ => zmem (n := 483) (by decide +kernel), fun _ h => absurd h.symm (Nat.succ_ne_zero _), by decide +kernel, by decide +kernel, by decide +kernel, fun h => absurd h (by decide +kernel)⟩, List.forall_mem_cons.mpr ⟨⟨Or.inl (zmem (n := 694) (by decide +kernel)), fun h => absurd h (by decide +kernel), fun c h => by cases h; exact ⟨zmem (n := 696) (by decide +kernel), zmem (n := 9) (by decide +kernel), by decide +kernel⟩, by decide +kernel, by decide +kernel, by decide +kernel, fun h => absurd h (by decide +kernel)⟩, List.forall_mem_cons.mpr ⟨⟨Or.inl (zmem (n := 714) (by decide +kernel)), fun h => absurd h (by decide +kernel), fun c h => by cases h; exact ⟨zmem (n := 716) (by decide +kernel), zmem (n := 14) (by decide +kernel), by decide +kernel⟩, by decide +kernel, by decide +kernel, by decide +kernel, fun h => absurd h (by decide +kernel)⟩, List.forall_mem_cons.mpr ⟨⟨Or.inl (zmem (n := 718) (by decide +kernel)), fun _ => zmem (n := 719) (by decide +kernel), fun _ h => absurd h.symm (Nat.succ_ne_zero _), by decide +kernel, by decide +kernel, by decide +kernel, fun h => absurd h (by decide +kernel)⟩, List.forall_mem_cons.mpr ⟨⟨Or.inl (zmem (n := 698) (by decide +kernel)), fun h => absurd h (by decide +kernel), fun c h => by cases h; exact ⟨zmem (n := 700) (by decide +kernel), zmem (n := 10) (by decide +kernel), by decide +kernel⟩, by decide +kernel, by decide +kernel, by decide +kernel, fun h => absurd h (by decide +kernel)⟩, List.forall_mem_cons.mpr ⟨⟨Or.inl (zmem (n := 733) (by decide +kernel)), fun _ => zmem (n := 532) (by decide +kernel), fun _ h => absurd h.symm (Nat.succ_ne_zero _), by decide +kernel, by decide +kernel, by decide +kernel, fun h => absurd h (by decide +kernel)⟩, fun _ h => absurd h List.not_mem_nil⟩⟩⟩⟩⟩⟩⟩⟩⟩⟩⟩⟩⟩⟩⟩⟩⟩⟩⟩
theorem zMok_8 : ∀ q ∈ zMD.getD 8 [], zMok 8 q := List.forall_mem_cons.mpr ⟨⟨Or.inr ⟨"OakCourt", by decide +kernel, rfl⟩, fun _ => zmem (n := 739) (by decide +kernel), fun _ h => absurd h.symm (Nat.succ_ne_zero _), by decide +kernel, by decide +kernel, by decide +kernel, fun h => absurd h (by decide +kernel)⟩, List.forall_mem_cons.mpr ⟨⟨Or.inr ⟨"OakCourt", by decide +kernel, rfl⟩, fun _ => zmem (n := 518) (by decide +kernel), fun _ h => absurd h.symm (Nat.succ_ne_zero _), by decide +kernel, by decide +kernel, by decide +kernel, fun h => absurd h (by decide +kernel)⟩, List.forall_mem_cons.mpr ⟨⟨Or.inl (zmem (n := 520) (by decide +kernel)), fun h => absurd h (by decide +kernel), fun c h => by cases h; exact ⟨zmem (n := 522) (by decide +kernel), zmem (n := 0) (by decide +kernel), by decide +kernel⟩, by decide +kernel, by decide +kernel, by decide +kernel, fun h => absurd h (by decide +kernel)⟩, List.forall_mem_cons.mpr ⟨⟨Or.inl (zmem (n := 527) (by decide +kernel)), fun h => absurd h (by decide +kernel), fun c h => by cases h; exact ⟨zmem (n := 529) (by decide +kernel), zmem (n := 1) (by decide +kernel), by decide +kernel⟩, by decide +kernel, by decide +kernel, by decide +kernel, fun h => absurd h (by decide +kernel)⟩, List.forall_mem_cons.mpr ⟨⟨Or.inl (zmem (n := 531) (by decide +kernel)), fun _ => zmem (n := 532) (by decide +kernel), fun _ h => absurd h.symm (Nat.succ_ne_zero _), by decide +kernel, by decide +kernel, by decide +kernel, fun h => absurd h (by decide +kernel)⟩, List.forall_mem_cons.mpr ⟨⟨Or.inl (zmem (n := 524) (by decide +kernel)), fun _ => zmem (n := 525) (by decide +kernel), fun _ h => absurd h.symm (Nat.succ_ne_zero _), by decide +kernel, by decide +kernel, by decide +kernel, fun h => absurd h (by decide +kernel)⟩, fun _ h => absurd h List.not_mem_nil⟩⟩⟩⟩⟩⟩
theorem zMok_9 : ∀ q ∈ zMD.getD 9 [], zMok 9 q := List.forall_mem_cons.mpr ⟨⟨Or.inl (zmem (n := 911) (by decide +kernel)), fun h => absurd h (by decide +kernel), fun c h => by cases h; exact ⟨zmem (n := 818) (by decide +kernel), zmem (n := 819) (by decide +kernel), by decide +kernel⟩, by decide +kernel, by decide +kernel, by decide +kernel, fun h => absurd h (by decide +kernel)⟩, List.forall_mem_cons.mpr ⟨⟨Or.inr ⟨"OakCourt", by decide +kernel, rfl⟩, fun _ => zmem (n := 495) (by decide +kernel), fun _ h => absurd h.symm (Nat.succ_ne_zero _), by decide +kernel, by decide +kernel, by decide +kernel, fun h => absurd h (by decide +kernel)⟩, List.forall_mem_cons.mpr ⟨⟨Or.inl (zmem (n := 913) (by decide +kernel)), fun h => absurd h (by decide +kernel), fun c h => by cases h; exact ⟨zmem (n := 780) (by decide +kernel), zmem (n := 781) (by decide +kernel), by decide +kernel⟩, by decide +kernel, by decide +kernel, by decide +kernel, fun h => absurd h (by decide +kernel)⟩, List.forall_mem_cons.mpr ⟨⟨Or.inl (zmem (n := 914) (by decide +kernel)), fun h => absurd h (by decide +kernel), fun c h => by cases h; exact ⟨zmem (n := 784) (by decide +kernel), zmem (n := 785) (by decide +kernel), by decide +kernel⟩, by decide +kernel, by decide +kernel, by decide +kernel, fun h => absurd h (by decide +kernel)⟩, List.forall_mem_cons.mpr ⟨⟨Or.inl (zmem (n := 915) (by decide +kernel)), fun h => absurd h (by decide +kernel), fun c h => by cases h; exact ⟨zmem (n := 917) (by decide +kernel), zmem (n := 23) (by decide +kernel), by decide +kernel⟩, by decide +kernel, by decide +kernel, by decide +kernel, fun h => absurd h (by decide +kernel)⟩, List.forall_mem_cons.mpr ⟨⟨Or.inl (zmem (n := 919) (by decide +kernel)), fun h => absurd h (by decide +kernel), fun c h => by cases h; exact ⟨zmem (n := 490) (by decide +kernel), zmem (n := 491) (by decide +kernel), by decide +kernel⟩, by decide +kernel, by decide +kernel, by decide +kernel, fun h => absurd h (by decide +kernel)⟩, List.forall_mem_cons.mpr ⟨⟨Or.inl (zmem (n := 920) (by decide +kernel)), fun h => absurd h (by decide +kernel), fun c h => by cases h; exact ⟨zmem (n := 810) (by decide +kernel), zmem (n := 811) (by decide +kernel), by decide +kernel⟩, by decide +kernel, by decide +kernel, by decide +kernel, fun h => absurd h (by decide +kernel)⟩, List.forall_mem_cons.mpr ⟨⟨Or.inl (zmem (n := 933) (by decide +kernel)), fun h => absurd h (by decide +kernel), fun c h => by cases h; exact ⟨zmem (n := 935) (by decide +kernel), zmem (n := 24) (by decide +kernel), by decide +kernel⟩, by decide +kernel, by decide +kernel, by decide +kernel, fun h => absurd h (by decide +kernel)⟩, List.forall_mem_cons.mpr ⟨⟨Or.inl (zmem (n := 953) (by decide +kernel)), fun h => absurd h (by decide +kernel), fun c h => by cases h; exact ⟨zmem (n := 930) (by decide +kernel), zmem (n := 931) (by decide +kernel), by decide +kernel⟩, by decide +kernel, by decide +kernel, by decide +kernel, fun h => absurd h (by decide +kernel)⟩, List.forall_mem_cons.mpr ⟨⟨Or.inl (zmem (n := 937) (by decide +kernel)), fun h => absurd h (by decide +kernel), fun c h => by cases h; exact ⟨zmem (n := 938) (by decide +kernel), zmem (n := 939) (by decide +kernel), by decide +kernel⟩, by decide +kernel, by decide +kernel, by decide +kernel, fun h => absurd h (by decide +kernel)⟩, List.forall_mem_cons.mpr ⟨⟨Or.inl (zmem (n := 941) (by decide +kernel)), fun h => absurd h (by decide +kernel), fun c h => by cases h; exact ⟨zmem (n := 943) (by decide +kernel), zmem (n := 25) (by decide +kernel), by decide +kernel⟩, by decide +kernel, by decide +kernel, by decide +kernel, fun h => absurd h (by decide +kernel)⟩, fun _ h => absurd h List.not_mem_nil⟩⟩⟩⟩⟩⟩⟩⟩⟩⟩⟩
theorem zMok_10 : ∀ q ∈ zMD.getD 10 [], zMok 10 q := List.forall_mem_cons.mpr ⟨⟨Or.inl (zmem (n := 589) (by decide +kernel)), fun _ => zmem (n := 590) (by decide +kernel), fun _ h => absurd h.symm (Nat.succ_ne_zero _), by decide +kernel, by decide +kernel, by decide +kernel, fun h => absurd h (by decide +kernel)⟩, List.forall_mem_cons.mpr ⟨⟨Or.inl (zmem (n := 592) (by decide +kernel)), fun _ => zmem (n := 593) (by decide +kernel), fun _ h => absurd h.symm (Nat.succ_ne_zero _), by decide +kernel, by decide +kernel, by decide +kernel, fun h => absurd h (by decide +kernel)⟩, List.forall_mem_cons.mpr ⟨⟨Or.inl (zmem (n := 599) (by decide +kernel)), fun h => absurd h (by decide +kernel), fun c h => by cases h; exact ⟨zmem (n := 601) (by decide +kernel), zmem (n := 2) (by decide +kernel), by decide +kernel⟩, by decide +kernel, by decide +kernel, by decide +kernel, fun h => absurd h (by decide +kernel)⟩, List.forall_mem_cons.mpr ⟨⟨Or.inl (zmem (n := 673) (by decide +kernel)), fun h => absurd h (by decide +kernel), fun c h => by cases h; exact ⟨zmem (n := 675) (by decide +kernel), zmem (n := 4) (by decide +kernel), by decide +kernel⟩, by decide +kernel, by decide +kernel, by decide +kernel, fun h => absurd h (by decide +kernel)⟩, List.forall_mem_cons.mpr ⟨⟨Or.inl (zmem (n := 604) (by decide +kernel)), fun h => absurd h (by decide +kernel), fun c h => by cases h; exact ⟨zmem (n := 606) (by decide +kernel), zmem (n := 3) (by decide +kernel), by decide +kernel⟩, by decide +kernel, by decide +kernel, by decide +kernel, fun h => absurd h (by decide +kernel)⟩, List.forall_mem_cons.mpr ⟨⟨Or.inl (zmem (n := 608) (by decide +kernel)), fun h => absurd h (by decide +kernel), fun c h => by cases h; exact ⟨zmem (n := 609) (by decide +kernel), zmem (n := 610) (by decide +kernel), by decide +kernel⟩, by decide +kernel, by decide +kernel, by decide +kernel, fun h => absurd h (by decide +kernel)⟩, List.forall_mem_cons.mpr ⟨⟨Or.inl (zmem (n := 618) (by decide +kernel)), fun h => absurd h (by decide +kernel), fun c h => by cases h; exact ⟨zmem (n := 619) (by decide +kernel), zmem (n := 620) (by decide +kernel), by decide +kernel⟩, by decide +kernel, by decide +kernel, by decide +kernel, fun h => absurd h (by decide +kernel)⟩, fun _ h => absurd h List.not_mem_nil⟩⟩⟩⟩⟩⟩⟩
theorem zMok_11 : ∀ q ∈ zMD.getD 11 [], zMok 11 q := List.forall_mem_cons.mpr ⟨⟨Or.inl (zmem (n := 479) (by decide +kernel)), fun _ => zmem (n := 480) (by decide +kernel), fun _ h => absurd h.symm (Nat.succ_ne_zero _), by decide +kernel, by decide +kernel, by decide +kernel, fun h => absurd h (by decide +kernel)⟩, List.forall_mem_cons.mpr ⟨⟨Or.inl (zmem (n := 485) (by decide +kernel)), fun h => absurd h (by decide +kernel), fun c h => by cases h; exact ⟨zmem (n := 486) (by decide +kernel), zmem (n := 487) (by decide +kernel), by decide +kernel⟩, by decide +kernel, by decide +kernel, by decide +kernel, fun h => absurd h (by decide +kernel)⟩, List.forall_mem_cons.mpr ⟨⟨Or.inl (zmem (n := 482) (by decide +kernel)), fun _ => zmem (n := 483) (by decide +kernel), fun _ h => absurd h.symm (Nat.succ_ne_zero _), by decide +kernel, by decide +kernel, by decide +kernel, fun h => absurd h (by decide +kernel)⟩, List.forall_mem_cons.mpr ⟨⟨Or.inl (zmem (n := 489) (by decide +kernel)), fun h => absurd h (by decide +kernel), fun c h => by cases h; exact ⟨zmem (n := 490) (by decide +kernel), zmem (n := 491) (by decide +kernel), by decide +kernel⟩, by decide +kernel, by decide +kernel, by decide +kernel, fun h => absurd h (by decide +kernel)⟩, List.forall_mem_cons.mpr ⟨⟨Or.inl (zmem (n := 497) (by decide +kernel)), fun h => absurd h (by decide +kernel), fun c h => by cases h; exact ⟨zmem (n := 498) (by decide +kernel), zmem (n := 499) (by decide +kernel), by decide +kernel⟩, by decide +kernel, by decide +kernel, by decide +kernel, fun h => absurd h (by decide +kernel)⟩, List.forall_mem_cons.mpr ⟨⟨Or.inl (zmem (n := 505) (by decide +kernel)), fun h => absurd h (by decide +kernel), fun c h => by cases h; exact ⟨zmem (n := 506) (by decide +kernel), zmem (n := 507) (by decide +kernel), by decide +kernel⟩, by decide +kernel, by decide +kernel, by decide +kernel, fun h => absurd h (by decide +kernel)⟩, List.forall_mem_cons.mpr ⟨⟨Or.inl (zmem (n := 535) (by decide +kernel)), fun h => absurd h (by decide +kernel), fun c h => by cases h; exact ⟨zmem (n := 536) (by decide +kernel), zmem (n := 537) (by decide +kernel), by decide +kernel⟩, by decide +kernel, by decide +kernel, by decide +kernel, fun h => absurd h (by decide +kernel)⟩, List.forall_mem_cons.mpr ⟨⟨Or.inl (zmem (n := 543) (by decide +kernel)), fun h => absurd h (by decide +kernel), fun c h => by cases h; exact ⟨zmem (n := 544) (by decide +kernel), zmem (n := 545) (by decide +kernel), by decide +kernel⟩, by decide +kernel, by decide +kernel, by decide +kernel, fun h => absurd h (by decide +kernel)⟩, List.forall_mem_cons.mpr ⟨⟨Or.inl (zmem (n := 554) (by decide +kernel)), fun _ => zmem (n := 555) (by decide +kernel), fun _ h => absurd h.symm (Nat.succ_ne_zero _), by decide +kernel, by decide +kernel, by decide +kernel, fun h => absurd h (by decide +kernel)⟩, List.forall_mem_cons.mpr ⟨⟨Or.inl (zmem (n := 569) (by decide +kernel)), fun h => absurd h (by decide +kernel), fun c h => by cases h; exact ⟨zmem (n := 570) (by decide +kernel), zmem (n := 571) (by decide +kernel), by decide +kernel⟩, by decide +kernel, by decide +kernel, by decide +kernel, fun h => absurd h (by decide +kernel)⟩, List.forall_mem_cons.mpr ⟨⟨Or.inl (zmem (n := 577) (by decide +kernel)), fun h => absurd h (by decide +kernel), fun c h => by cases h; exact ⟨zmem (n := 578) (by decide +kernel), zmem (n := 579) (by decide +kernel), by decide +kernel⟩, by decide +kernel, by decide +kernel, by decide +kernel, fun h => absurd h (by decide +kernel)⟩, List.forall_mem_cons.mpr ⟨⟨Or.inl (zmem (n := 734) (by decide +kernel)), fun h => absurd h (by decide +kernel), fun c h => by cases h; exact ⟨zmem (n := 735) (by decide +kernel), zmem (n := 736) (by decide +kernel), by decide +kernel⟩, by decide +kernel, by decide +kernel, by decide +kernel, fun h => absurd h (by decide +kernel)⟩, List.forall_mem_cons.mpr ⟨⟨Or.inl (zmem (n := 752) (by decide +kernel)), fun _ => zmem (n := 753) (by decide +kernel), fun _ h => absurd h.symm (Nat.succ_ne_zero _), by decide +kernel, by decide +kernel, by decide +kernel, fun h => absurd h (by decide +kernel)⟩, List.forall_mem_cons.mpr ⟨⟨Or.inl (zmem (n := 755) (by decide +kernel)), fun h => absurd h (by decide +kernel), fun c h => by cases h; exact ⟨zmem (n := 756) (by decide +kernel), zmem (n := 757) (by decide +kernel), by decide +kernel⟩, by decide +kernel, by decide +kernel, by decide +kernel, fun h => absurd h (by decide +kernel)⟩, List.forall_mem_cons.mpr ⟨⟨Or.inl (zmem (n := 763) (by decide +kernel)), fun h => absurd h (by decide +kernel), fun c h => by cases h; exact ⟨zmem (n := 764) (by decide +kernel), zmem (n := 765) (by decide +kernel), by decide +kernel⟩, by decide +kernel, by decide +kernel, by decide +kernel, fun h => absurd h (by decide +kernel)⟩, List.forall_mem_cons.mpr ⟨⟨Or.inl (zmem (n := 779) (by decide +kernel)), fun h => absurd h (by decide +kernel), fun c h => by cases h; exact ⟨zmem (n := 780) (by decide +kernel), zmem (n := 781) (by decide +kernel), by decide +kernel⟩, by decide +kernel, by decide +kernel, by decide +kernel, fun h => absurd h (by decide +kernel)⟩, List.forall_mem_cons.mpr ⟨⟨Or.inl (zmem (n := 783) (by decide +kernel)), fun h => absurd h (by decide +kernel), fun c h => by cases h; exact ⟨zmem (n := 784) (by decide +kernel), zmem (n := 785) (by decide +kernel), by decide +kernel⟩, by decide +kernel, by decide +kernel, by decide +kernel, fun h => absurd h (by decide +kernel)⟩, List.forall_mem_cons.mpr ⟨⟨Or.inl (zmem (n := 791) (by decide +kernel)), fun h => absurd h (by decide +kernel), fun c h => by cases h; exact ⟨zmem (n := 792) (by decide +kernel), zmem (n := 793) (by decide +kernel), by decide +kernel⟩, by decide +kernel, by decide +kernel, by decide +kernel, fun h => absurd h (by decide +kernel)⟩, List.forall_mem_cons.mpr ⟨⟨Or.inl (zmem (n := 799) (by decide +kernel)), fun h => absurd h (by decide +kernel), fun c h => by cases h; exact ⟨zmem (n := 800) (by decide +kernel), zmem (n := 801) (by decide +kernel), by decide +kernel⟩, by decide +kernel, by decide +kernel, by decide +kernel, fun h => absurd h (by decide +kernel)⟩, List.forall_mem_cons.mpr ⟨⟨Or.inl (zmem (n := 817) (by decide +kernel)), fun h => absurd h (by decide +kernel), fun c h => by cases h; exact ⟨zmem (n := 818) (by decide +kernel), zmem (n := 819) (by decide +kernel), by decide +kernel⟩, by decide +kernel, by decide +kernel, by decide +kernel, fun h => absurd h (by decide +kernel)⟩, List.forall_mem_cons.mpr ⟨⟨Or.inl (zmem (n := 841) (by decide +kernel)), fun h => absurd h (by decide +kernel), fun c h => by cases h; exact ⟨zmem (n := 842) (by decide +kernel), zmem (n := 843) (by decide +kernel), by decide +kernel⟩, by decide +kernel, by decide +kernel, by decide +kernel, fun h => absurd h (by decide +kernel)⟩, List.forall_mem_cons.mpr ⟨⟨Or.inl (zmem (n := 853) (by decide +kernel)), fun h => absurd h (by decide +kernel), fun c h => by cases h; exact ⟨zmem (n := 854) (by decide +kernel), zmem (n := 855) (by decide +kernel), by decide +kernel⟩, by decide +kernel, by decide +kernel, by decide +kernel, fun h => absurd h (by decide +kernel)⟩, List.forall_mem_cons.mpr ⟨⟨Or.inl (zmem (n := 863) (by decide +kernel)), fun h => absurd h (by decide +kernel), fun c h => by cases h; exact ⟨zmem (n := 865) (by decide +kernel), zmem (n := 19) (by decide +kernel), by decide +kernel⟩, by decide +kernel, by decide +kernel, by decide +kernel, fun h => absurd h (by decide +kernel)⟩, List.forall_mem_cons.mpr ⟨⟨Or.inl (zmem (n := 871) (by decide +kernel)), fun h => absurd h (by decide +kernel), fun c h => by cases h; exact ⟨zmem (n := 810) (by decide +kernel), zmem (n := 811) (by decide +kernel), by decide +kernel⟩, by decide +kernel, by decide +kernel, by decide +kernel, fun h => absurd h (by decide +kernel)⟩, List.forall_mem_cons.mpr ⟨⟨Or.inl (zmem (n := 876) (by decide +kernel)), fun h => absurd h (by decide +kernel), fun c h => by cases h; exact ⟨zmem (n := 878) (by decide +kernel), zmem (n := 20) (by decide +kernel), by decide +kernel⟩, by decide +kernel, by decide +kernel, by decide +kernel, fun h => absurd h (by decide +kernel)⟩, List.forall_mem_cons.mpr ⟨⟨Or.inl (zmem (n := 884) (by decide +kernel)), fun h => absurd h (by decide +kernel), fun c h => by cases h; exact ⟨zmem (n := 886) (by decide +kernel), zmem (n := 21) (by decide +kernel), by decide +kernel⟩, by decide +kernel, by decide +kernel, by decide +kernel, fun h => absurd h (by decide +kernel)⟩, List.forall_mem_cons.mpr ⟨⟨Or.inl (zmem (n := 888) (by decide +kernel)), fun _ => zmem (n := 495) (by decide +kernel), fun _ h => absurd h.symm (Nat.succ_ne_zero _), by decide +kernel, by decide +kernel, by decide +kernel, fun h => absurd h (by decide +kernel)⟩, List.forall_mem_cons.mpr ⟨⟨Or.inl (zmem (n := 897) (by decide +kernel)), fun h => absurd h (by decide +kernel), fun c h => by cases h; exact ⟨zmem (n := 899) (by decide +kernel), zmem (n := 22) (by decide +kernel), by decide +kernel⟩, by decide +kernel, by decide +kernel, by decide +kernel, fun h => absurd h (by decide +kernel)⟩, List.forall_mem_cons.mpr ⟨⟨Or.inl (zmem (n := 907) (by decide +kernel)), fun h => absurd h (by decide +kernel), fun c h => by cases h; exact ⟨zmem (n := 908) (by decide +kernel), zmem (n := 909) (by decide +kernel), by decide +kernel⟩, by decide +kernel, by decide +kernel, by decide +kernel, fun h => absurd h (by decide +kernel)⟩, List.forall_mem_cons.mpr ⟨⟨Or.inl (zmem (n := 929) (by decide +kernel)), fun h => absurd h (by decide +kernel), fun c h => by cases h; exact ⟨zmem (n := 930) (by decide +kernel), zmem (n := 931) (by decide +kernel), by decide +kernel⟩, by decide +kernel, by decide +kernel, by decide +kernel, fun h => absurd h (by decide +kernel)⟩, List.forall_mem_cons.mpr ⟨⟨Or.inl (zmem (n := 949) (by decide +kernel)), fun h => absurd h (by decide +kernel), fun c h => by cases h; exact ⟨zmem (n := 950) (by decide +kernel), zmem (n := 951) (by decide +kernel), by decide +kernel⟩, by decide +kernel, by decide +kernel, by decide +kernel, fun h => absurd h (by decide +kernel)⟩, List.forall_mem_cons.mpr ⟨⟨Or.inl (zmem (n := 901) (by decide +kernel)), fun _ => zmem (n := 902) (by decide +kernel), fun _ h => absurd h.symm (Nat.succ_ne_zero _), by decide +kernel, by decide +kernel, by decide +kernel, fun h => absurd h (by decide +kernel)⟩, List.forall_mem_cons.mpr ⟨⟨Or.inl (zmem (n := 958) (by decide +kernel)), fun h => absurd h (by decide +kernel), fun c h => by cases h; exact ⟨zmem (n := 959) (by decide +kernel), zmem (n := 960) (by decide +kernel), by decide +kernel⟩, by decide +kernel, by decide +kernel, by decide +kernel, fun h => absurd h (by decide +kernel)⟩, List.forall_mem_cons.mpr ⟨⟨Or.inl (zmem (n := 970) (by decide +kernel)), fun h => absurd h (by decide +kernel), fun c h => by cases h; exact ⟨zmem (n := 971) (by decide +kernel), zmem (n := 972) (by decide +kernel), by decide +kernel⟩, by decide +kernel, by decide +kernel, by decide +kernel, fun h => absurd h (by decide +kernel)⟩, List.forall_mem_cons.mpr ⟨⟨Or.inl (zmem (n := 983) (by decide +kernel)), fun h => absurd h (by decide +kernel), fun c h => by cases h; exact ⟨zmem (n := 984) (by decide +kernel), zmem (n := 985) (by decide +kernel), by decide +kernel⟩, by decide +kernel, by decide +kernel, by decide +kernel, fun h => absurd h (by decide +kernel)⟩, List.forall_mem_cons.mpr ⟨⟨Or.inl (zmem (n := 999) (by decide +kernel)), fun _ => zmem (n := 1000) (by decide +kernel), fun _ h => absurd h.symm (Nat.succ_ne_zero _), by decide +kernel, by decide +kernel, by decide +kernel, fun h => absurd h (by decide +kernel)⟩, List.forall_mem_cons.mpr ⟨⟨Or.inl (zmem (n := 1003) (by decide +kernel)), fun _ => zmem (n := 1004) (by decide +kernel), fun _ h => absurd h.symm (Nat.succ_ne_zero _), by decide +kernel, by decide +kernel, by decide +kernel, fun h => absurd h (by decide +kernel)⟩, List.forall_mem_cons.mpr ⟨⟨Or.inl (zmem (n := 1014) (by decide +kernel)), fun h => absurd h (by decide +kernel), fun c h => by cases h; exact ⟨zmem (n := 1015) (by decide +kernel), zmem (n := 1016) (by decide +kernel), by decide +kernel⟩, by decide +kernel, by decide +kernel, by decide +kernel, fun h => absurd h (by decide +kernel)⟩, List.forall_mem_cons.mpr ⟨⟨Or.inl (zmem (n := 1025) (by decide +kernel)), fun h => absurd h (by decide +kernel), fun c h => by cases h; exact ⟨zmem (n := 1026) (by decide +kernel), zmem (n := 1027) (by decide +kernel), by decide +kernel⟩, by decide +kernel, by decide +kernel, by decide +kernel, fun h => absurd h (by decide +kernel)⟩, List.forall_mem_cons.mpr ⟨⟨Or.inl (zmem (n := 1037) (by decide +kernel)), fun h => absurd h (by decide +kernel), fun c h => by cases h; exact ⟨zmem (n := 1038) (by decide +kernel), zmem (n := 1039) (by decide +kernel), by decide +kernel⟩, by decide +kernel, by decide +kernel, by decide +kernel, fun h => absurd h (by decide +kernel)⟩, List.forall_mem_cons.mpr ⟨⟨Or.inl (zmem (n := 1045) (by decide +kernel)), fun _ => zmem (n := 1046) (by decide +kernel), fun _ h => absurd h.symm (Nat.succ_ne_zero _), by decide +kernel, by decide +kernel, by decide +kernel, fun h => absurd h (by decide +kernel)⟩, List.forall_mem_cons.mpr ⟨⟨Or.inl (zmem (n := 1048) (by decide +kernel)), fun h => absurd h (by decide +kernel), fun c h => by cases h; exact ⟨zmem (n := 1049) (by decide +kernel), zmem (n := 1050) (by decide +kernel), by decide +kernel⟩, by decide +kernel, by decide +kernel, by decide +kernel, fun h => absurd h (by decide +kernel)⟩, List.forall_mem_cons.mpr ⟨⟨Or.inl (zmem (n := 1056) (by decide +kernel)), fun h => absurd h (by decide +kernel), fun c h => by cases h; exact ⟨zmem (n := 1057) (by decide +kernel), zmem (n := 1058) (by decide +kernel), by decide +kernel⟩, by decide +kernel, by decide +kernel, by decide +kernel, fun h => absurd h (by decide +kernel)⟩, List.forall_mem_cons.mpr ⟨⟨Or.inl (zmem (n := 1060) (by decide +kernel)), fun _ => zmem (n := 1061) (by decide +kernel), fun _ h => absurd h.symm (Nat.succ_ne_zero _), by decide +kernel, by decide +kernel, by decide +kernel, fun h => absurd h (by decide +kernel)⟩, List.forall_mem_cons.mpr ⟨⟨Or.inl (zmem (n := 1067) (by decide +kernel)), fun h => absurd h (by decide +kernel), fun c h => by cases h; exact ⟨zmem (n := 1068) (by decide +kernel), zmem (n := 1069) (by decide +kernel), by decide +kernel⟩, by decide +kernel, by decide +kernel, by decide +kernel, fun h => absurd h (by decide +kernel)⟩, List.forall_mem_cons.mpr ⟨⟨Or.inl (zmem (n := 1079) (by decide +kernel)), fun h => absurd h (by decide +kernel), fun c h => by cases h; exact ⟨zmem (n := 1080) (by decide +kernel), zmem (n := 1081) (by decide +kernel), by decide +kernel⟩, by decide +kernel, by decide +kernel, by decide +kernel, fun h => absurd h (by decide +kernel)⟩, List.forall_mem_cons.mpr ⟨⟨Or.inl (zmem (n := 1083) (by decide +kernel)), fun h => absurd h (by decide +kernel), fun c h => by cases h; exact ⟨zmem (n := 1084) (by decide +kernel), zmem (n := 1085) (by decide +kernel), by decide +kernel⟩, by decide +kernel, by decide +kernel, by decide +kernel, fun h => absurd h (by decide +kernel)⟩, List.forall_mem_cons.mpr ⟨⟨Or.inl (zmem (n := 1087) (by decide +kernel)), fun h => absurd h (by decide +kernel), fun c h => by cases h; exact ⟨zmem (n := 1088) (by decide +kernel), zmem (n := 1089) (by decide +kernel), by decide +kernel⟩, by decide +kernel, by decide +kernel, by decide +kernel, fun h => absurd h (by decide +kernel)⟩, List.forall_mem_cons.mpr ⟨⟨Or.inl (zmem (n := 1095) (by decide +kernel)), fun h => absurd h (by decide +kernel), fun c h => by cases h; exact ⟨zmem (n := 1096) (by decide +kernel), zmem (n := 1097) (by decide +kernel), by decide +kernel⟩, by decide +kernel, by decide +kernel, by decide +kernel, fun h => absurd h (by decide +kernel)⟩, List.forall_mem_cons.mpr ⟨⟨Or.inl (zmem (n := 1099) (by decide +kernel)), fun h => absurd h (by decide +kernel), fun c h => by cases h; exact ⟨zmem (n := 1101) (by decide +kernel), zmem (n := 27) (by decide +kernel), by decide +kernel⟩, by decide +kernel, by decide +kernel, by decide +kernel, fun h => absurd h (by decide +kernel)⟩, List.forall_mem_cons.mpr ⟨⟨Or.inl (zmem (n := 1107) (by decide +kernel)), fun _ => zmem (n := 518) (by decide +kernel), fun _ h => absurd h.symm (Nat.succ_ne_zero _), by decide +kernel, by decide +kernel, by decide +kernel, fun h => absurd h (by decide +kernel)⟩, List.forall_mem_cons.mpr ⟨⟨Or.inl (zmem (n := 1112) (by decide +kernel)), fun h => absurd h (by decide +kernel), fun c h => by cases h; exact ⟨zmem (n := 1113) (by decide +kernel), zmem (n := 1114) (by decide +kernel), by decide +kernel⟩, by decide +kernel, by decide +kernel, by decide +kernel, fun h => absurd h (by decide +kernel)⟩, List.forall_mem_cons.mpr ⟨⟨Or.inl (zmem (n := 1116) (by decide +kernel)), fun h => absurd h (by decide +kernel), fun c h => by cases h; exact ⟨zmem (n := 1117) (by decide +kernel), zmem (n := 1118) (by decide +kernel), by decide +kernel⟩, by decide +kernel, by decide +kernel, by decide +kernel, fun h => absurd h (by decide +kernel)⟩, List.forall_mem_cons.mpr ⟨⟨Or.inl (zmem (n := 1128) (by decide +kernel)), fun h => absurd h (by decide +kernel), fun c h => by cases h; exact ⟨zmem (n := 1129) (by decide +kernel), zmem (n := 1130) (by decide +kernel), by decide +kernel⟩, by decide +kernel, by decide +kernel, by decide +kernel, fun h => absurd h (by decide +kernel)⟩, List.forall_mem_cons.mpr ⟨⟨Or.inl (zmem (n := 1137) (by decide +kernel)), fun h => absurd h (by decide +kernel), fun c h => by cases h; exact ⟨zmem (n := 1138) (by decide +kernel), zmem (n := 1139) (by decide +kernel), by decide +kernel⟩, by decide +kernel, by decide +kernel, by decide +kernel, fun h => absurd h (by decide +kernel)⟩, List.forall_mem_cons.mpr ⟨⟨Or.inl (zmem (n := 1149) (by decide +kernel)), fun h => absurd h (by decide +kernel), fun c h => by cases h; exact ⟨zmem (n := 1150) (by decide +kernel), zmem (n := 1151) (by decide +kernel), by decide +kernel⟩, by decide +kernel, by decide +kernel, by decide +kernel, fun h => absurd h (by decide +kernel)⟩, List.forall_mem_cons.mpr ⟨⟨Or.inl (zmem (n := 1103) (by decide +kernel)), fun h => absurd h (by decide +kernel), fun c h => by cases h; exact ⟨zmem (n := 1104) (by decide +kernel), zmem (n := 1105) (by decide +kernel), by decide +kernel⟩, by decide +kernel, by decide +kernel, by decide +kernel, fun h => absurd h (by decide +kernel)⟩, List.forall_mem_cons.mpr ⟨⟨Or.inl (zmem (n := 741) (by decide +kernel)), fun _ => zmem (n := 742) (by decide +kernel), fun _ h => absurd h.symm (Nat.succ_ne_zero _), by decide +kernel, by decide +kernel, by decide +kernel, fun h => absurd h (by decide +kernel)⟩, List.forall_mem_cons.mpr ⟨⟨Or.inl (zmem (n := 744) (by decide +kernel)), fun _ => zmem (n := 745) (by decide +kernel), fun _ h => absurd h.symm (Nat.succ_ne_zero _), by decide +kernel, by decide +kernel, by decide +kernel, fun _ => ⟨zmem (n := 744) (by decide +kernel), rfl, rfl⟩⟩, fun _ h => absurd h List.not_mem_nil⟩⟩⟩⟩⟩⟩⟩⟩⟩⟩⟩⟩⟩⟩⟩⟩⟩⟩⟩⟩⟩⟩⟩⟩⟩⟩⟩⟩⟩⟩⟩⟩⟩⟩⟩⟩⟩⟩⟩⟩⟩⟩⟩⟩⟩⟩⟩⟩⟩⟩⟩⟩⟩⟩⟩⟩⟩⟩⟩
theorem zMok_12 : ∀ q ∈ zMD.getD 12 [], zMok 12 q := List.forall_mem_cons.mpr ⟨⟨Or.inl (zmem (n := 1298) (by decide +kernel)), fun _ => zmem (n := 1299) (by decide +kernel), fun _ h => absurd h.symm (Nat.succ_ne_zero _), by decide +kernel, by decide +kernel, by decide +kernel, fun h => absurd h (by decide +kernel)⟩, List.forall_mem_cons.mpr ⟨⟨Or.inl (zmem (n := 1318) (by decide +kernel)), fun _ => zmem (n := 1319) (by decide +kernel), fun _ h => absurd h.symm (Nat.succ_ne_zero _), by decide +kernel, by decide +kernel, by decide +kernel, fun h => absurd h (by decide +kernel)⟩, List.forall_mem_cons.mpr ⟨⟨Or.inl (zmem (n := 1314) (by decide +kernel)), fun h => absurd h (by decide +kernel), fun c h => by cases h; exact ⟨zmem (n := 1316) (by decide +kernel), zmem (n := 36) (by decide +kernel), by decide +kernel⟩, by decide +kernel, by decide +kernel, by decide +kernel, fun h => absurd h (by decide +kernel)⟩, List.forall_mem_cons.mpr ⟨⟨Or.inl (zmem (n := 1301) (by decide +kernel)), fun h => absurd h (by decide +kernel), fun c h => by cases h; exact ⟨zmem (n := 1303) (by decide +kernel), zmem (n := 34) (by decide +kernel), by decide +kernel⟩, by decide +kernel, by decide +kernel, by decide +kernel, fun h => absurd h (by decide +kernel)⟩, List.forall_mem_cons.mpr ⟨⟨Or.inl (zmem (n := 1305) (by decide +kernel)), fun _ => zmem (n := 1306) (by decide +kernel), fun _ h => absurd h.symm (Nat.succ_ne_zero _), by decide +kernel, by decide +kernel, by decide +kernel, fun h => absurd h (by decide +kernel)⟩, List.forall_mem_cons.mpr ⟨⟨Or.inl (zmem (n := 1310) (by decide +kernel)), fun h => absurd h (by decide +kernel), fun c h => by cases h; exact ⟨zmem (n := 1312) (by decide +kernel), zmem (n := 35) (by decide +kernel), by decide +kernel⟩, by decide +kernel, by decide +kernel, by decide +kernel, fun h => absurd h (by decide +kernel)⟩, List.forall_mem_cons.mpr ⟨⟨Or.inl (zmem (n := 1345) (by decide +kernel)), fun h => absurd h (by decide +kernel), fun c h => by cases h; exact ⟨zmem (n := 1347) (by decide +kernel), zmem (n := 41) (by decide +kernel), by decide +kernel⟩, by decide +kernel, by decide +kernel, by decide +kernel, fun h => absurd h (by decide +kernel)⟩, List.forall_mem_cons.mpr ⟨⟨Or.inl (zmem (n := 1349) (by decide +kernel)), fun _ => zmem (n := 1350) (by decide +kernel), fun _ h => absurd h.symm (Nat.succ_ne_zero _), by decide +kernel, by decide +kernel, by decide +kernel, fun h => absurd h (by decide +kernel)⟩, List.forall_mem_cons.mpr ⟨⟨Or.inl (zmem (n := 1338) (by decide +kernel)), fun _ => zmem (n := 1339) (by decide +kernel), fun _ h => absurd h.symm (Nat.succ_ne_zero _), by decide +kernel, by decide +kernel, by decide +kernel, fun h => absurd h (by decide +kernel)⟩, List.forall_mem_cons.mpr ⟨⟨Or.inl (zmem (n := 1341) (by decide +kernel)), fun h => absurd h (by decide +kernel), fun c h => by cases h; exact ⟨zmem (n := 1343) (by decide +kernel), zmem (n := 40) (by decide +kernel), by decide +kernel⟩, by decide +kernel, by decide +kernel, by decide +kernel, fun h => absurd h (by decide +kernel)⟩, List.forall_mem_cons.mpr ⟨⟨Or.inl (zmem (n := 1334) (by decide +kernel)), fun h => absurd h (by decide +kernel), fun c h => by cases h; exact ⟨zmem (n := 1336) (by decide +kernel), zmem (n := 39) (by decide +kernel), by decide +kernel⟩, by decide +kernel, by decide +kernel, by decide +kernel, fun h => absurd h (by decide +kernel)⟩, List.forall_mem_cons.mpr ⟨⟨Or.inl (zmem (n := 1371) (by decide +kernel)), fun h => absurd h (by decide +kernel), fun c h => by cases h; exact ⟨zmem (n := 1373) (by decide +kernel), zmem (n := 46) (by decide +kernel), by decide +kernel⟩, by decide +kernel, by decide +kernel, by decide +kernel, fun h => absurd h (by decide +kernel)⟩, List.forall_mem_cons.mpr ⟨⟨Or.inl (zmem (n := 1356) (by decide +kernel)), fun h => absurd h (by decide +kernel), fun c h => by cases h; exact ⟨zmem (n := 1358) (by decide +kernel), zmem (n := 43) (by decide +kernel), by decide +kernel⟩, by decide +kernel, by decide +kernel, by decide +kernel, fun h => absurd h (by decide +kernel)⟩, List.forall_mem_cons.mpr ⟨⟨Or.inl (zmem (n := 1360) (by decide +kernel)), fun h => absurd h (by decide +kernel), fun c h => by cases h; exact ⟨zmem (n := 1362) (by decide +kernel), zmem (n := 44) (by decide +kernel), by decide +kernel⟩, by decide +kernel, by decide +kernel, by decide +kernel, fun h => absurd h (by decide +kernel)⟩, List.forall_mem_cons.mpr ⟨⟨Or.inl (zmem (n := 1367) (by decide +kernel)), fun h => absurd h (by decide +kernel), fun c h => by cases h; exact ⟨zmem (n := 1369) (by decide +kernel), zmem (n := 45) (by decide +kernel), by decide +kernel⟩, by decide +kernel, by decide +kernel, by decide +kernel, fun h => absurd h (by decide +kernel)⟩, List.forall_mem_cons.mpr ⟨⟨Or.inl (zmem (n := 1352) (by decide +kernel)), fun h => absurd h (by decide +kernel), fun c h => by cases h; exact ⟨zmem (n := 1354) (by decide +kernel), zmem (n := 42) (by decide +kernel), by decide +kernel⟩, by decide +kernel, by decide +kernel, by decide +kernel, fun h => absurd h (by decide +kernel)⟩, List.forall_mem_cons.mpr ⟨⟨Or.inl (zmem (n := 1375) (by decide +kernel)), fun h => absurd h (by decide +kernel), fun c h => by cases h; exact ⟨zmem (n := 1377) (by decide +kernel), zmem (n := 47) (by decide +kernel), by decide +kernel⟩, by decide +kernel, by decide +kernel, by decide +kernel, fun h => absurd h (by decide +kernel)⟩, List.forall_mem_cons.mpr ⟨⟨Or.inl (zmem (n := 1425) (by decide +kernel)), fun h => absurd h (by decide +kernel), fun c h => by cases h; exact ⟨zmem (n := 1427) (by decide +kernel), zmem (n := 51) (by decide +kernel), by decide +kernel⟩, by decide +kernel, by decide +kernel, by decide +kernel, fun h => absurd h (by decide +kernel)⟩, List.forall_mem_cons.mpr ⟨⟨Or.inl (zmem (n := 1330) (by decide +kernel)), fun h => absurd h (by decide +kernel), fun c h => by cases h; exact ⟨zmem (n := 1332) (by decide +kernel), zmem (n := 38) (by decide +kernel), by decide +kernel⟩, by decide +kernel, by decide +kernel, by decide +kernel, fun h => absurd h (by decide +kernel)⟩, List.forall_mem_cons.mpr ⟨⟨Or.inl (zmem (n := 1326) (by decide +kernel)), fun h => absurd h (by decide +kernel), fun c h => by cases h; exact ⟨zmem (n := 1328) (by decide +kernel), zmem (n := 37) (by decide +kernel), by decide +kernel⟩, by decide +kernel, by decide +kernel, by decide +kernel, fun h => absurd h (by decide +kernel)⟩, List.forall_mem_cons.mpr ⟨⟨Or.inl (zmem (n := 1364) (by decide +kernel)), fun _ => zmem (n := 1365) (by decide +kernel), fun _ h => absurd h.symm (Nat.succ_ne_zero _), by decide +kernel, by decide +kernel, by decide +kernel, fun h => absurd h (by decide +kernel)⟩, List.forall_mem_cons.mpr ⟨⟨Or.inl (zmem (n := 1400) (by decide +kernel)), fun h => absurd h (by decide +kernel), fun c h => by cases h; exact ⟨zmem (n := 1402) (by decide +kernel), zmem (n := 48) (by decide +kernel), by decide +kernel⟩, by decide +kernel, by decide +kernel, by decide +kernel, fun h => absurd h (by decide +kernel)⟩, List.forall_mem_cons.mpr ⟨⟨Or.inl (zmem (n := 1405) (by decide +kernel)), fun h => absurd h (by decide +kernel), fun c h => by cases h; exact ⟨zmem (n := 1407) (by decide +kernel), zmem (n := 49) (by decide +kernel), by decide +kernel⟩, by decide +kernel, by decide +kernel, by decide +kernel, fun h => absurd h (by decide +kernel)⟩, List.forall_mem_cons.mpr ⟨⟨Or.inl (zmem (n := 1413) (by decide +kernel)), fun h => absurd h (by decide +kernel), fun c h => by cases h; exact ⟨zmem (n := 1415) (by decide +kernel), zmem (n := 50) (by decide +kernel), by decide +kernel⟩, by decide +kernel, by decide +kernel, by decide +kernel, fun h => absurd h (by decide +kernel)⟩, List.forall_mem_cons.mpr ⟨⟨Or.inl (zmem (n := 1433) (by decide +kernel)), fun h => absurd h (by decide +kernel), fun c h => by cases h; exact ⟨zmem (n := 1435) (by decide +kernel), zmem (n := 52) (by decide +kernel), by decide +kernel⟩, by decide +kernel, by decide +kernel, by decide +kernel, fun h => absurd h (by decide +kernel)⟩, List.forall_mem_cons.mpr ⟨⟨Or.inl (zmem (n := 1445) (by decide +kernel)), fun h => absurd h (by decide +kernel), fun c h => by cases h; exact ⟨zmem (n := 1447) (by decide +kernel), zmem (n := 54) (by decide +kernel), by decide +kernel⟩, by decide +kernel, by decide +kernel, by decide +kernel, fun h => absurd h (by decide +kernel)⟩, List.forall_mem_cons.mpr ⟨⟨Or.inl (zmem (n := 1441) (by decide +kernel)), fun h => absurd h (by decide +kernel), fun c h => by cases h; exact ⟨zmem (n := 1443) (by decide +kernel), zmem (n := 53) (by decide +kernel), by decide +kernel⟩, by decide +kernel, by decide +kernel, by decide +kernel, fun h => absurd h (by decide +kernel)⟩, List.forall_mem_cons.mpr ⟨⟨Or.inl (zmem (n := 1453) (by decide +kernel)), fun h => absurd h (by decide +kernel), fun c h => by cases h; exact ⟨zmem (n := 1455) (by decide +kernel), zmem (n := 55) (by decide +kernel), by decide +kernel⟩, by decide +kernel, by decide +kernel, by decide +kernel, fun h => absurd h (by decide +kernel)⟩, List.forall_mem_cons.mpr ⟨⟨Or.inl (zmem (n := 1457) (by decide +kernel)), fun h => absurd h (by decide +kernel), fun c h => by cases h; exact ⟨zmem (n := 1459) (by decide +kernel), zmem (n := 56) (by decide +kernel), by decide +kernel⟩, by decide +kernel, by decide +kernel, by decide +kernel, fun h => absurd h (by decide +kernel)⟩, List.forall_mem_cons.mpr ⟨⟨Or.inl (zmem (n := 1465) (by decide +kernel)), fun h => absurd h (by decide +kernel), fun c h => by cases h; exact ⟨zmem (n := 1467) (by decide +kernel), zmem (n := 57) (by decide +kernel), by decide +kernel⟩, by decide +kernel, by decide +kernel, by decide +kernel, fun h => absurd h (by decide +kernel)⟩, List.forall_mem_cons.mpr ⟨⟨Or.inl (zmem (n := 1477) (by decide +kernel)), fun h => absurd h (by decide +kernel), fun c h => by cases h; exact ⟨zmem (n := 1479) (by decide +kernel), zmem (n := 58) (by decide +kernel), by decide +kernel⟩, by decide +kernel, by decide +kernel, by decide +kernel, fun h => absurd h (by decide +kernel)⟩, List.forall_mem_cons.mpr ⟨⟨Or.inl (zmem (n := 1489) (by decide +kernel)), fun h => absurd h (by decide +kernel), fun c h => by cases h; exact ⟨zmem (n := 1491) (by decide +kernel), zmem (n := 59) (by decide +kernel), by decide +kernel⟩, by decide +kernel, by decide +kernel, by decide +kernel, fun h => absurd h (by decide +kernel)⟩, List.forall_mem_cons.mpr ⟨⟨Or.inl (zmem (n := 1501) (by decide +kernel)), fun h => absurd h (by decide +kernel), fun c h => by cases h; exact ⟨zmem (n := 1503) (by decide +kernel), zmem (n := 60) (by decide +kernel), by decide +kernel⟩, by decide +kernel, by decide +kernel, by decide +kernel, fun h => absurd h (by decide +kernel)⟩, List.forall_mem_cons.mpr ⟨⟨Or.inl (zmem (n := 1517) (by decide +kernel)), fun _ => zmem (n := 1518) (by decide +kernel), fun _ h => absurd h.symm (Nat.succ_ne_zero _), by decide +kernel, by decide +kernel, by decide +kernel, fun h => absurd h (by decide +kernel)⟩, List.forall_mem_cons.mpr ⟨⟨Or.inl (zmem (n := 1528) (by decide +kernel)), fun h => absurd h (by decide +kernel), fun c h => by cases h; exact ⟨zmem (n := 1530) (by decide +kernel), zmem (n := 63) (by decide +kernel), by decide +kernel⟩, by decide +kernel, by decide +kernel, by decide +kernel, fun h => absurd h (by decide +kernel)⟩, List.forall_mem_cons.mpr ⟨⟨Or.inl (zmem (n := 1525) (by decide +kernel)), fun _ => zmem (n := 1526) (by decide +kernel), fun _ h => absurd h.symm (Nat.succ_ne_zero _), by decide +kernel, by decide +kernel, by decide +kernel, fun h => absurd h (by decide +kernel)⟩, List.forall_mem_cons.mpr ⟨⟨Or.inl (zmem (n := 1513) (by decide +kernel)), fun h => absurd h (by decide +kernel), fun c h => by cases h; exact ⟨zmem (n := 1515) (by decide +kernel), zmem (n := 61) (by decide +kernel), by decide +kernel⟩, by decide +kernel, by decide +kernel, by decide +kernel, fun h => absurd h (by decide +kernel)⟩, List.forall_mem_cons.mpr ⟨⟨Or.inl (zmem (n := 1521) (by decide +kernel)), fun h => absurd h (by decide +kernel), fun c h => by cases h; exact ⟨zmem (n := 1523) (by decide +kernel), zmem (n := 62) (by decide +kernel), by decide +kernel⟩, by decide +kernel, by decide +kernel, by decide +kernel, fun h => absurd h (by decide +kernel)⟩, List.forall_mem_cons.mpr ⟨⟨Or.inl (zmem (n := 1544) (by decide +kernel)), fun h => absurd h (by decide +kernel), fun c h => by cases h; exact ⟨zmem (n := 1546) (by decide +kernel), zmem (n := 64) (by decide +kernel), by decide +kernel⟩, by decide +kernel, by decide +kernel, by decide +kernel, fun h => absurd h (by decide +kernel)⟩, List.forall_mem_cons.mpr ⟨⟨Or.inl (zmem (n := 1548) (by decide +kernel)), fun h => absurd h (by decide +kernel), fun c h => by cases h; exact ⟨zmem (n := 1550) (by decide +kernel), zmem (n := 65) (by decide +kernel), by decide +kernel⟩, by decide +kernel, by decide +kernel, by decide +kernel, fun h => absurd h (by decide +kernel)⟩, List.forall_mem_cons.mpr ⟨⟨Or.inl (zmem (n := 1552) (by decide +kernel)), fun h => absurd h (by decide +kernel), fun c h => by cases h; exact ⟨zmem (n := 1554) (by decide +kernel), zmem (n := 66) (by decide +kernel), by decide +kernel⟩, by decide +kernel, by decide +kernel, by decide +kernel, fun h => absurd h (by decide +kernel)⟩, List.forall_mem_cons.mpr ⟨⟨Or.inl (zmem (n := 1556) (by decide +kernel)), fun _ => zmem (n := 1557) (by decide +kernel), fun _ h => absurd h.symm (Nat.succ_ne_zero _), by decide +kernel, by decide +kernel, by decide +kernel, fun h => absurd h (by decide +kernel)⟩, List.forall_mem_cons.mpr ⟨⟨Or.inl (zmem (n := 1540) (by decide +kernel)), fun _ => zmem (n := 1541) (by decide +kernel), fun _ h => absurd h.symm (Nat.succ_ne_zero _), by decide +kernel, by decide +kernel, by decide +kernel, fun h => absurd h (by decide +kernel)⟩, List.forall_mem_cons.mpr ⟨⟨Or.inl (zmem (n := 1579) (by decide +kernel)), fun h => absurd h (by decide +kernel), fun c h => by cases h; exact ⟨zmem (n := 1581) (by decide +kernel), zmem (n := 68) (by decide +kernel), by decide +kernel⟩, by decide +kernel, by decide +kernel, by decide +kernel, fun h => absurd h (by decide +kernel)⟩, List.forall_mem_cons.mpr ⟨⟨Or.inl (zmem (n := 1575) (by decide +kernel)), fun h => absurd h (by decide +kernel), fun c h => by cases h; exact ⟨zmem (n := 1577) (by decide +kernel), zmem (n := 67) (by decide +kernel), by decide +kernel⟩, by decide +kernel, by decide +kernel, by decide +kernel, fun h => absurd h (by decide +kernel)⟩, List.forall_mem_cons.mpr ⟨⟨Or.inl (zmem (n := 1601) (by decide +kernel)), fun h => absurd h (by decide +kernel), fun c h => by cases h; exact ⟨zmem (n := 1592) (by decide +kernel), zmem (n := 1593) (by decide +kernel), by decide +kernel⟩, by decide +kernel, by decide +kernel, by decide +kernel, fun h => absurd h (by decide +kernel)⟩, List.forall_mem_cons.mpr ⟨⟨Or.inl (zmem (n := 1610) (by decide +kernel)), fun h => absurd h (by decide +kernel), fun c h => by cases h; exact ⟨zmem (n := 1612) (by decide +kernel), zmem (n := 69) (by decide +kernel), by decide +kernel⟩, by decide +kernel, by decide +kernel, by decide +kernel, fun h => absurd h (by decide +kernel)⟩, List.forall_mem_cons.mpr ⟨⟨Or.inl (zmem (n := 1636) (by decide +kernel)), fun h => absurd h (by decide +kernel), fun c h => by cases h; exact ⟨zmem (n := 1638) (by decide +kernel), zmem (n := 71) (by decide +kernel), by decide +kernel⟩, by decide +kernel, by decide +kernel, by decide +kernel, fun h => absurd h (by decide +kernel)⟩, List.forall_mem_cons.mpr ⟨⟨Or.inl (zmem (n := 1640) (by decide +kernel)), fun _ => zmem (n := 1641) (by decide +kernel), fun _ h => absurd h.symm (Nat.succ_ne_zero _), by decide +kernel, by decide +kernel, by decide +kernel, fun h => absurd h (by decide +kernel)⟩, List.forall_mem_cons.mpr ⟨⟨Or.inl (zmem (n := 1645) (by decide +kernel)), fun _ => zmem (n := 1646) (by decide +kernel), fun _ h => absurd h.symm (Nat.succ_ne_zero _), by decide +kernel, by decide +kernel, by decide +kernel, fun h => absurd h (by decide +kernel)⟩, List.forall_mem_cons.mpr ⟨⟨Or.inl (zmem (n := 1632) (by decide +kernel)), fun h => absurd h (by decide +kernel), fun c h => by cases h; exact ⟨zmem (n := 1634) (by decide +kernel), zmem (n := 70) (by decide +kernel), by decide +kernel⟩, by decide +kernel, by decide +kernel, by decide +kernel, fun h => absurd h (by decide +kernel)⟩, List.forall_mem_cons.mpr ⟨⟨Or.inl (zmem (n := 1670) (by decide +kernel)), fun h => absurd h (by decide +kernel), fun c h => by cases h; exact ⟨zmem (n := 1672) (by decide +kernel), zmem (n := 75) (by decide +kernel), by decide +kernel⟩, by decide +kernel, by decide +kernel, by decide +kernel, fun h => absurd h (by decide +kernel)⟩, List.forall_mem_cons.mpr ⟨⟨Or.inl (zmem (n := 1658) (by decide +kernel)), fun h => absurd h (by decide +kernel), fun c h => by cases h; exact ⟨zmem (n := 1660) (by decide +kernel), zmem (n := 74) (by decide +kernel), by decide +kernel⟩, by decide +kernel, by decide +kernel, by decide +kernel, fun h => absurd h (by decide +kernel)⟩, List.forall_mem_cons.mpr ⟨⟨Or.inl (zmem (n := 1696) (by decide +kernel)), fun h => absurd h (by decide +kernel), fun c h => by cases h; exact ⟨zmem (n := 1698) (by decide +kernel), zmem (n := 81) (by decide +kernel), by decide +kernel⟩, by decide +kernel, by decide +kernel, by decide +kernel, fun h => absurd h (by decide +kernel)⟩, List.forall_mem_cons.mpr ⟨⟨Or.inl (zmem (n := 1705) (by decide +kernel)), fun h => absurd h (by decide +kernel), fun c h => by cases h; exact ⟨zmem (n := 1707) (by decide +kernel), zmem (n := 82) (by decide +kernel), by decide +kernel⟩, by decide +kernel, by decide +kernel, by decide +kernel, fun h => absurd h (by decide +kernel)⟩, List.forall_mem_cons.mpr ⟨⟨Or.inl (zmem (n := 1709) (by decide +kernel)), fun h => absurd h (by decide +kernel), fun c h => by cases h; exact ⟨zmem (n := 1711) (by decide +kernel), zmem (n := 83) (by decide +kernel), by decide +kernel⟩, by decide +kernel, by decide +kernel, by decide +kernel, fun h => absurd h (by decide +kernel)⟩, List.forall_mem_cons.mpr ⟨⟨Or.inl (zmem (n := 1692) (by decide +kernel)), fun h => absurd h (by decide +kernel), fun c h => by cases h; exact ⟨zmem (n := 1694) (by decide +kernel), zmem (n := 80) (by decide +kernel), by decide +kernel⟩, by decide +kernel, by decide +kernel, by decide +kernel, fun h => absurd h (by decide +kernel)⟩, List.forall_mem_cons.mpr ⟨⟨Or.inl (zmem (n := 1675) (by decide +kernel)), fun h => absurd h (by decide +kernel), fun c h => by cases h; exact ⟨zmem (n := 1677) (by decide +kernel), zmem (n := 76) (by decide +kernel), by decide +kernel⟩, by decide +kernel, by decide +kernel, by decide +kernel, fun h => absurd h (by decide +kernel)⟩, List.forall_mem_cons.mpr ⟨⟨Or.inl (zmem (n := 1688) (by decide +kernel)), fun h => absurd h (by decide +kernel), fun c h => by cases h; exact ⟨zmem (n := 1690) (by decide +kernel), zmem (n := 79) (by decide +kernel), by decide +kernel⟩, by decide +kernel, by decide +kernel, by decide +kernel, fun h => absurd h (by decide +kernel)⟩, List.forall_mem_cons.mpr ⟨⟨Or.inl (zmem (n := 1683) (by decide +kernel)), fun h => absurd h (by decide +kernel), fun c h => by cases h; exact ⟨zmem (n := 1685) (by decide +kernel), zmem (n := 78) (by decide +kernel), by decide +kernel⟩, by decide +kernel, by decide +kernel, by decide +kernel, fun h => absurd h (by decide +kernel)⟩, List.forall_mem_cons.mpr ⟨⟨Or.inl (zmem (n := 1679) (by decide +kernel)), fun h => absurd h (by decide +kernel), fun c h => by cases h; exact ⟨zmem (n := 1681) (by decide +kernel), zmem (n := 77) (by decide +kernel), by decide +kernel⟩, by decide +kernel, by decide +kernel, by decide +kernel, fun h => absurd h (by decide +kernel)⟩, List.forall_mem_cons.mpr ⟨⟨Or.inl (zmem (n := 1654) (by decide +kernel)), fun h => absurd h (by decide +kernel), fun c h => by cases h; exact ⟨zmem (n := 1656) (by decide +kernel), zmem (n := 73) (by decide +kernel), by decide +kernel⟩, by decide +kernel, by decide +kernel, by decide +kernel, fun h => absurd h (by decide +kernel)⟩, List.forall_mem_cons.mpr ⟨⟨Or.inl (zmem (n := 1650) (by decide +kernel)), fun h => absurd h (by decide +kernel), fun c h => by cases h; exact ⟨zmem (n := 1652) (by decide +kernel), zmem (n := 72) (by decide +kernel), by decide +kernel⟩, by decide +kernel, by decide +kernel, by decide +kernel, fun h => absurd h (by decide +kernel)⟩, List.forall_mem_cons.mpr ⟨⟨Or.inl (zmem (n := 1722) (by decide +kernel)), fun _ => zmem (n := 1723) (by decide +kernel), fun _ h => absurd h.symm (Nat.succ_ne_zero _), by decide +kernel, by decide +kernel, by decide +kernel, fun h => absurd h (by decide +kernel)⟩, List.forall_mem_cons.mpr ⟨⟨Or.inl (zmem (n := 1730) (by decide +kernel)), fun _ => zmem (n := 1731) (by decide +kernel), fun _ h => absurd h.symm (Nat.succ_ne_zero _), by decide +kernel, by decide +kernel, by decide +kernel, fun h => absurd h (by decide +kernel)⟩, List.forall_mem_cons.mpr ⟨⟨Or.inl (zmem (n := 1737) (by decide +kernel)), fun h => absurd h (by decide +kernel), fun c h => by cases h; exact ⟨zmem (n := 1739) (by decide +kernel), zmem (n := 84) (by decide +kernel), by decide +kernel⟩, by decide +kernel, by decide +kernel, by decide +kernel, fun h => absurd h (by decide +kernel)⟩, List.forall_mem_cons.mpr ⟨⟨Or.inl (zmem (n := 1746) (by decide +kernel)), fun h => absurd h (by decide +kernel), fun c h => by cases h; exact ⟨zmem (n := 1410) (by decide +kernel), zmem (n := 1411) (by decide +kernel), by decide +kernel⟩, by decide +kernel, by decide +kernel, by decide +kernel, fun h => absurd h (by decide +kernel)⟩, List.forall_mem_cons.mpr ⟨⟨Or.inl (zmem (n := 1757) (by decide +kernel)), fun h => absurd h (by decide +kernel), fun c h => by cases h; exact ⟨zmem (n := 1759) (by decide +kernel), zmem (n := 85) (by decide +kernel), by decide +kernel⟩, by decide +kernel, by decide +kernel, by decide +kernel, fun h => absurd h (by decide +kernel)⟩, List.forall_mem_cons.mpr ⟨⟨Or.inl (zmem (n := 1769) (by decide +kernel)), fun h => absurd h (by decide +kernel), fun c h => by cases h; exact ⟨zmem (n := 1771) (by decide +kernel), zmem (n := 87) (by decide +kernel), by decide +kernel⟩, by decide +kernel, by decide +kernel, by decide +kernel, fun h => absurd h (by decide +kernel)⟩, List.forall_mem_cons.mpr ⟨⟨Or.inl (zmem (n := 1765) (by decide +kernel)), fun h => absurd h (by decide +kernel), fun c h => by cases h; exact ⟨zmem (n := 1767) (by decide +kernel), zmem (n := 86) (by decide +kernel), by decide +kernel⟩, by decide +kernel, by decide +kernel, by decide +kernel, fun h => absurd h (by decide +kernel)⟩, List.forall_mem_cons.mpr ⟨⟨Or.inl (zmem (n := 1781) (by decide +kernel)), fun h => absurd h (by decide +kernel), fun c h => by cases h; exact ⟨zmem (n := 1783) (by decide +kernel), zmem (n := 90) (by decide +kernel), by decide +kernel⟩, by decide +kernel, by decide +kernel, by decide +kernel, fun h => absurd h (by decide +kernel)⟩, List.forall_mem_cons.mpr ⟨⟨Or.inl (zmem (n := 1773) (by decide +kernel)), fun h => absurd h (by decide +kernel), fun c h => by cases h; exact ⟨zmem (n := 1775) (by decide +kernel), zmem (n := 88) (by decide +kernel), by decide +kernel⟩, by decide +kernel, by decide +kernel, by decide +kernel, fun h => absurd h (by decide +kernel)⟩, List.forall_mem_cons.mpr ⟨⟨Or.inl (zmem (n := 1777) (by decide +kernel)), fun h => absurd h (by decide +kernel), fun c h => by cases h; exact ⟨zmem (n := 1779) (by decide +kernel), zmem (n := 89) (by decide +kernel), by decide +kernel⟩, by decide +kernel, by decide +kernel, by decide +kernel, fun h => absurd h (by decide +kernel)⟩, List.forall_mem_cons.mpr ⟨⟨Or.inl (zmem (n := 1785) (by decide +kernel)), fun h => absurd h (by decide +kernel), fun c h => by cases h; exact ⟨zmem (n := 1787) (by decide +kernel), zmem (n := 91) (by decide +kernel), by decide +kernel⟩, by decide +kernel, by decide +kernel, by decide +kernel, fun h => absurd h (by decide +kernel)⟩, List.forall_mem_cons.mpr ⟨⟨Or.inl (zmem (n := 1793) (by decide +kernel)), fun h => absurd h (by decide +kernel), fun c h => by cases h; exact ⟨zmem (n := 1795) (by decide +kernel), zmem (n := 92) (by decide +kernel), by decide +kernel⟩, by decide +kernel, by decide +kernel, by decide +kernel, fun h => absurd h (by decide +kernel)⟩, fun _ h => absurd h List.not_mem_nil⟩⟩⟩⟩⟩⟩⟩⟩⟩⟩⟩⟩⟩⟩⟩⟩⟩⟩⟩⟩⟩⟩⟩⟩⟩⟩⟩⟩⟩⟩⟩⟩⟩⟩⟩⟩⟩⟩⟩⟩⟩⟩⟩⟩⟩⟩⟩⟩⟩⟩⟩⟩⟩⟩⟩⟩⟩⟩⟩⟩⟩⟩⟩⟩⟩⟩⟩⟩⟩⟩⟩⟩⟩⟩⟩
theorem zMok_13 : ∀ q ∈ zMD.getD 13 [], zMok 13 q := fun _ h => absurd h List.not_mem_nil
theorem zMok_14 : ∀ q ∈ zMD.getD 14 [], zMok 14 q := fun _ h => absurd h List.not_mem_nil
theorem zMok_15 : ∀ q ∈ zMD.getD 15 [], zMok 15 q := List.forall_mem_cons.mpr ⟨⟨Or.inl (zmem (n := 475) (by decide +kernel)), fun h => absurd h (by decide +kernel), fun c h => by cases h; exact ⟨zmem (n := 476) (by decide +kernel), zmem (n := 477) (by decide +kernel), by decide +kernel⟩, by decide +kernel, by decide +kernel, by decide +kernel, fun h => absurd h (by decide +kernel)⟩, List.forall_mem_cons.mpr ⟨⟨Or.inl (zmem (n := 1293) (by decide +kernel)), fun h => absurd h (by decide +kernel), fun c h => by cases h; exact ⟨zmem (n := 1294) (by decide +kernel), zmem (n := 1295) (by decide +kernel), by decide +kernel⟩, by decide +kernel, by decide +kernel, by decide +kernel, fun h => absurd h (by decide +kernel)⟩, List.forall_mem_cons.mpr ⟨⟨Or.inl (zmem (n := 501) (by decide +kernel)), fun h => absurd h (by decide +kernel), fun c h => by cases h; exact ⟨zmem (n := 502) (by decide +kernel), zmem (n := 503) (by decide +kernel), by decide +kernel⟩, by decide +kernel, by decide +kernel, by decide +kernel, fun h => absurd h (by decide +kernel)⟩, List.forall_mem_cons.mpr ⟨⟨Or.inl (zmem (n := 1321) (by decide +kernel)), fun h => absurd h (by decide +kernel), fun c h => by cases h; exact ⟨zmem (n := 1322) (by decide +kernel), zmem (n := 1323) (by decide +kernel), by decide +kernel⟩, by decide +kernel, by decide +kernel, by decide +kernel, fun h => absurd h (by decide +kernel)⟩, List.forall_mem_cons.mpr ⟨⟨Or.inl (zmem (n := 550) (by decide +kernel)), fun h => absurd h (by decide +kernel), fun c h => by cases h; exact ⟨zmem (n := 551) (by decide +kernel), zmem (n := 552) (by decide +kernel), by decide +kernel⟩, by decide +kernel, by decide +kernel, by decide +kernel, fun h => absurd h (by decide +kernel)⟩, List.forall_mem_cons.mpr ⟨⟨Or.inl (zmem (n := 1379) (by decide +kernel)), fun h => absurd h (by decide +kernel), fun c h => by cases h; exact ⟨zmem (n := 1380) (by decide +kernel), zmem (n := 1381) (by decide +kernel), by decide +kernel⟩, by decide +kernel, by decide +kernel, by decide +kernel, fun h => absurd h (by decide +kernel)⟩, List.forall_mem_cons.mpr ⟨⟨Or.inl (zmem (n := 557) (by decide +kernel)), fun h => absurd h (by decide +kernel), fun c h => by cases h; exact ⟨zmem (n := 558) (by decide +kernel), zmem (n := 559) (by decide +kernel), by decide +kernel⟩, by decide +kernel, by decide +kernel, by decide +kernel, fun h => absurd h (by decide +kernel)⟩, List.forall_mem_cons.mpr ⟨⟨Or.inl (zmem (n := 1383) (by decide +kernel)), fun h => absurd h (by decide +kernel), fun c h => by cases h; exact ⟨zmem (n := 1384) (by decide +kernel), zmem (n := 1385) (by decide +kernel), by decide +kernel⟩, by decide +kernel, by decide +kernel, by decide +kernel, fun h => absurd h (by decide +kernel)⟩, List.forall_mem_cons.mpr ⟨⟨Or.inl (zmem (n := 561) (by decide +kernel)), fun h => absurd h (by decide +kernel), fun c h => by cases h; exact ⟨zmem (n := 562) (by decide +kernel), zmem (n := 563) (by decide +kernel), by decide +kernel⟩, by decide +kernel, by decide +kernel, by decide +kernel, fun h => absurd h (by decide +kernel)⟩, List.forall_mem_cons.mpr ⟨⟨Or.inl (zmem (n := 1387) (by decide +kernel)), fun h => absurd h (by decide +kernel), fun c h => by cases h; exact ⟨zmem (n := 1388) (by decide +kernel), zmem (n := 1389) (by decide +kernel), by decide +kernel⟩, by decide +kernel, by decide +kernel, by decide +kernel, fun h => absurd h (by decide +kernel)⟩, List.forall_mem_cons.mpr ⟨⟨Or.inl (zmem (n := 565) (by decide +kernel)), fun h => absurd h (by decide +kernel), fun c h => by cases h; exact ⟨zmem (n := 566) (by decide +kernel), zmem (n := 567) (by decide +kernel), by decide +kernel⟩, by decide +kernel, by decide +kernel, by decide +kernel, fun h => absurd h (by decide +kernel)⟩, List.forall_mem_cons.mpr ⟨⟨Or.inl (zmem (n := 1622) (by decide +kernel)), fun h => absurd h (by decide +kernel), fun c h => by cases h; exact ⟨zmem (n := 1623) (by decide +kernel), zmem (n := 1624) (by decide +kernel), by decide +kernel⟩, by decide +kernel, by decide +kernel, by decide +kernel, fun h => absurd h (by decide +kernel)⟩, List.forall_mem_cons.mpr ⟨⟨Or.inl (zmem (n := 573) (by decide +kernel)), fun h => absurd h (by decide +kernel), fun c h => by cases h; exact ⟨zmem (n := 574) (by decide +kernel), zmem (n := 575) (by decide +kernel), by decide +kernel⟩, by decide +kernel, by decide +kernel, by decide +kernel, fun h => absurd h (by decide +kernel)⟩, List.forall_mem_cons.mpr ⟨⟨Or.inl (zmem (n := 1628) (by decide +kernel)), fun h => absurd h (by decide +kernel), fun c h => by cases h; exact ⟨zmem (n := 1629) (by decide +kernel), zmem (n := 1630) (by decide +kernel), by decide +kernel⟩, by decide +kernel, by decide +kernel, by decide +kernel, fun h => absurd h (by decide +kernel)⟩, List.forall_mem_cons.mpr ⟨⟨Or.inl (zmem (n := 748) (by decide +kernel)), fun h => absurd h (by decide +kernel), fun c h => by cases h; exact ⟨zmem (n := 749) (by decide +kernel), zmem (n := 750) (by decide +kernel), by decide +kernel⟩, by decide +kernel, by decide +kernel, by decide +kernel, fun h => absurd h (by decide +kernel)⟩, List.forall_mem_cons.mpr ⟨⟨Or.inl (zmem (n := 1391) (by decide +kernel)), fun h => absurd h (by decide +kernel), fun c h => by cases h; exact ⟨zmem (n := 1392) (by decide +kernel), zmem (n := 1393) (by decide +kernel), by decide +kernel⟩, by decide +kernel, by decide +kernel, by decide +kernel, fun h => absurd h (by decide +kernel)⟩, List.forall_mem_cons.mpr ⟨⟨Or.inl (zmem (n := 759) (by decide +kernel)), fun h => absurd h (by decide +kernel), fun c h => by cases h; exact ⟨zmem (n := 760) (by decide +kernel), zmem (n := 761) (by decide +kernel), by decide +kernel⟩, by decide +kernel, by decide +kernel, by decide +kernel, fun h => absurd h (by decide +kernel)⟩, List.forall_mem_cons.mpr ⟨⟨Or.inl (zmem (n := 1396) (by decide +kernel)), fun h => absurd h (by decide +kernel), fun c h => by cases h; exact ⟨zmem (n := 1397) (by decide +kernel), zmem (n := 1398) (by decide +kernel), by decide +kernel⟩, by decide +kernel, by decide +kernel, by decide +kernel, fun h => absurd h (by decide +kernel)⟩, List.forall_mem_cons.mpr ⟨⟨Or.inl (zmem (n := 767) (by decide +kernel)), fun h => absurd h (by decide +kernel), fun c h => by cases h; exact ⟨zmem (n := 768) (by decide +kernel), zmem (n := 769) (by decide +kernel), by decide +kernel⟩, by decide +kernel, by decide +kernel, by decide +kernel, fun h => absurd h (by decide +kernel)⟩, List.forall_mem_cons.mpr ⟨⟨Or.inl (zmem (n := 1409) (by decide +kernel)), fun h => absurd h (by decide +kernel), fun c h => by cases h; exact ⟨zmem (n := 1410) (by decide +kernel), zmem (n := 1411) (by decide +kernel), by decide +kernel⟩, by decide +kernel, by decide +kernel, by decide +kernel, fun h => absurd h (by decide +kernel)⟩, List.forall_mem_cons.mpr ⟨⟨Or.inl (zmem (n := 771) (by decide +kernel)), fun h => absurd h (by decide +kernel), fun c h => by cases h; exact ⟨zmem (n := 772) (by decide +kernel), zmem (n := 773) (by decide +kernel), by decide +kernel⟩, by decide +kernel, by decide +kernel, by decide +kernel, fun h => absurd h (by decide +kernel)⟩, List.forall_mem_cons.mpr ⟨⟨Or.inl (zmem (n := 1417) (by decide +kernel)), fun h => absurd h (by decide +kernel), fun c h => by cases h; exact ⟨zmem (n := 1418) (by decide +kernel), zmem (n := 1419) (by decide +kernel), by decide +kernel⟩, by decide +kernel, by decide +kernel, by decide +kernel, fun h => absurd h (by decide +kernel)⟩, List.forall_mem_cons.mpr ⟨⟨Or.inl (zmem (n := 775) (by decide +kernel)), fun h => absurd h (by decide +kernel), fun c h => by cases h; exact ⟨zmem (n := 776) (by decide +kernel), zmem (n := 777) (by decide +kernel), by decide +kernel⟩, by decide +kernel, by decide +kernel, by decide +kernel, fun h => absurd h (by decide +kernel)⟩, List.forall_mem_cons.mpr ⟨⟨Or.inl (zmem (n := 1421) (by decide +kernel)), fun h => absurd h (by decide +kernel), fun c h => by cases h; exact ⟨zmem (n := 1422) (by decide +kernel), zmem (n := 1423) (by decide +kernel), by decide +kernel⟩, by decide +kernel, by decide +kernel, by decide +kernel, fun h => absurd h (by decide +kernel)⟩, List.forall_mem_cons.mpr ⟨⟨Or.inl (zmem (n := 787) (by decide +kernel)), fun h => absurd h (by decide +kernel), fun c h => by cases h; exact ⟨zmem (n := 788) (by decide +kernel), zmem (n := 789) (by decide +kernel), by decide +kernel⟩, by decide +kernel, by decide +kernel, by decide +kernel, fun h => absurd h (by decide +kernel)⟩, List.forall_mem_cons.mpr ⟨⟨Or.inl (zmem (n := 1429) (by decide +kernel)), fun h => absurd h (by decide +kernel), fun c h => by cases h; exact ⟨zmem (n := 1430) (by decide +kernel), zmem (n := 1431) (by decide +kernel), by decide +kernel⟩, by decide +kernel, by decide +kernel, by decide +kernel, fun h => absurd h (by decide +kernel)⟩, List.forall_mem_cons.mpr ⟨⟨Or.inl (zmem (n := 795) (by decide +kernel)), fun h => absurd h (by decide +kernel), fun c h => by cases h; exact ⟨zmem (n := 796) (by decide +kernel), zmem (n := 797) (by decide +kernel), by decide +kernel⟩, by decide +kernel, by decide +kernel, by decide +kernel, fun h => absurd h (by decide +kernel)⟩, List.forall_mem_cons.mpr ⟨⟨Or.inl (zmem (n := 1437) (by decide +kernel)), fun h => absurd h (by decide +kernel), fun c h => by cases h; exact ⟨zmem (n := 1438) (by decide +kernel), zmem (n := 1439) (by decide +kernel), by decide +kernel⟩, by decide +kernel, by decide +kernel, by decide +kernel, fun h => absurd h (by decide +kernel)⟩, List.forall_mem_cons.mpr ⟨⟨Or.inl (zmem (n := 813) (by decide +kernel)), fun h => absurd h (by decide +kernel), fun c h => by cases h; exact ⟨zmem (n := 814) (by decide +kernel), zmem (n := 815) (by decide +kernel), by decide +kernel⟩, by decide +kernel, by decide +kernel, by decide +kernel, fun h => absurd h (by decide +kernel)⟩, List.forall_mem_cons.mpr ⟨⟨Or.inl (zmem (n := 1449) (by decide +kernel)), fun h => absurd h (by decide +kernel), fun c h => by cases h; exact ⟨zmem (n := 1450) (by decide +kernel), zmem (n := 1451) (by decide +kernel), by decide +kernel⟩, by decide +kernel, by decide +kernel, by decide +kernel, fun h => absurd h (by decide +kernel)⟩, List.forall_mem_cons.mpr ⟨⟨Or.inl (zmem (n := 837) (by decide +kernel)), fun h => absurd h (by decide +kernel), fun c h => by cases h; exact ⟨zmem (n := 838) (by decide +kernel), zmem (n := 839) (by decide +kernel), by decide +kernel⟩, by decide +kernel, by decide +kernel, by decide +kernel, fun h => absurd h (by decide +kernel)⟩, List.forall_mem_cons.mpr ⟨⟨Or.inl (zmem (n := 1461) (by decide +kernel)), fun h => absurd h (by decide +kernel), fun c h => by cases h; exact ⟨zmem (n := 1462) (by decide +kernel), zmem (n := 1463) (by decide +kernel), by decide +kernel⟩, by decide +kernel, by decide +kernel, by decide +kernel, fun h => absurd h (by decide +kernel)⟩, List.forall_mem_cons.mpr ⟨⟨Or.inl (zmem (n := 845) (by decide +kernel)), fun h => absurd h (by decide +kernel), fun c h => by cases h; exact ⟨zmem (n := 846) (by decide +kernel), zmem (n := 847) (by decide +kernel), by decide +kernel⟩, by decide +kernel, by decide +kernel, by decide +kernel, fun h => absurd h (by decide +kernel)⟩, List.forall_mem_cons.mpr ⟨⟨Or.inl (zmem (n := 1469) (by decide +kernel)), fun h => absurd h (by decide +kernel), fun c h => by cases h; exact ⟨zmem (n := 1470) (by decide +kernel), zmem (n := 1471) (by decide +kernel), by decide +kernel⟩, by decide +kernel, by decide +kernel, by decide +kernel, fun h => absurd h (by decide +kernel)⟩, List.forall_mem_cons.mpr ⟨⟨Or.inl (zmem (n := 849) (by decide +kernel)), fun h => absurd h (by decide +kernel), fun c h => by cases h; exact ⟨zmem (n := 850) (by decide +kernel), zmem (n := 851) (by decide +kernel), by decide +kernel⟩, by decide +kernel, by decide +kernel, by decide +kernel, fun h => absurd h (by decide +kernel)⟩, List.forall_mem_cons.mpr ⟨⟨Or.inl (zmem (n := 1473) (by decide +kernel)), fun h => absurd h (by decide +kernel), fun c h => by cases h; exact ⟨zmem (n := 1474) (by decide +kernel), zmem (n := 1475) (by decide +kernel), by decide +kernel⟩, by decide +kernel, by decide +kernel, by decide +kernel, fun h => absurd h (by decide +kernel)⟩, List.forall_mem_cons.mpr ⟨⟨Or.inl (zmem (n := 859) (by decide +kernel)), fun h => absurd h (by decide +kernel), fun c h => by cases h; exact ⟨zmem (n := 860) (by decide +kernel), zmem (n := 861) (by decide +kernel), by decide +kernel⟩, by decide +kernel, by decide +kernel, by decide +kernel, fun h => absurd h (by decide +kernel)⟩, List.forall_mem_cons.mpr ⟨⟨Or.inl (zmem (n := 1481) (by decide +kernel)), fun h => absurd h (by decide +kernel), fun c h => by cases h; exact ⟨zmem (n := 1482) (by decide +kernel), zmem (n := 1483) (by decide +kernel), by decide +kernel⟩, by decide +kernel, by decide +kernel, by decide +kernel, fun h => absurd h (by decide +kernel)⟩, List.forall_mem_cons.mpr ⟨⟨Or.inl (zmem (n := 867) (by decide +kernel)), fun h => absurd h (by decide +kernel), fun c h => by cases h; exact ⟨zmem (n := 868) (by decide +kernel), zmem (n := 869) (by decide +kernel), by decide +kernel⟩, by decide +kernel, by decide +kernel, by decide +kernel, fun h => absurd h (by decide +kernel)⟩, List.forall_mem_cons.mpr ⟨⟨Or.inl (zmem (n := 1485) (by decide +kernel)), fun h => absurd h (by decide +kernel), fun c h => by cases h; exact ⟨zmem (n := 1486) (by decide +kernel), zmem (n := 1487) (by decide +kernel), by decide +kernel⟩, by decide +kernel, by decide +kernel, by decide +kernel, fun h => absurd h (by decide +kernel)⟩, List.forall_mem_cons.mpr ⟨⟨Or.inl (zmem (n := 872) (by decide +kernel)), fun h => absurd h (by decide +kernel), fun c h => by cases h; exact ⟨zmem (n := 873) (by decide +kernel), zmem (n := 874) (by decide +kernel), by decide +kernel⟩, by decide +kernel, by decide +kernel, by decide +kernel, fun h => absurd h (by decide +kernel)⟩, List.forall_mem_cons.mpr ⟨⟨Or.inl (zmem (n := 1493) (by decide +kernel)), fun h => absurd h (by decide +kernel), fun c h => by cases h; exact ⟨zmem (n := 1494) (by decide +kernel), zmem (n := 1495) (by decide +kernel), by decide +kernel⟩, by decide +kernel, by decide +kernel, by decide +kernel, fun h => absurd h (by decide +kernel)⟩, List.forall_mem_cons.mpr ⟨⟨Or.inl (zmem (n := 880) (by decide +kernel)), fun h => absurd h (by decide +kernel), fun c h => by cases h; exact ⟨zmem (n := 881) (by decide +kernel), zmem (n := 882) (by decide +kernel), by decide +kernel⟩, by decide +kernel, by decide +kernel, by decide +kernel, fun h => absurd h (by decide +kernel)⟩, List.forall_mem_cons.mpr ⟨⟨Or.inl (zmem (n := 1497) (by decide +kernel)), fun h => absurd h (by decide +kernel), fun c h => by cases h; exact ⟨zmem (n := 1498) (by decide +kernel), zmem (n := 1499) (by decide +kernel), by decide +kernel⟩, by decide +kernel, by decide +kernel, by decide +kernel, fun h => absurd h (by decide +kernel)⟩, List.forall_mem_cons.mpr ⟨⟨Or.inl (zmem (n := 889) (by decide +kernel)), fun h => absurd h (by decide +kernel), fun c h => by cases h; exact ⟨zmem (n := 890) (by decide +kernel), zmem (n := 891) (by decide +kernel), by decide +kernel⟩, by decide +kernel, by decide +kernel, by decide +kernel, fun h => absurd h (by decide +kernel)⟩, List.forall_mem_cons.mpr ⟨⟨Or.inl (zmem (n := 1505) (by decide +kernel)), fun h => absurd h (by decide +kernel), fun c h => by cases h; exact ⟨zmem (n := 1506) (by decide +kernel), zmem (n := 1507) (by decide +kernel), by decide +kernel⟩, by decide +kernel, by decide +kernel, by decide +kernel, fun h => absurd h (by decide +kernel)⟩, List.forall_mem_cons.mpr ⟨⟨Or.inl (zmem (n := 893) (by decide +kernel)), fun h => absurd h (by decide +kernel), fun c h => by cases h; exact ⟨zmem (n := 894) (by decide +kernel), zmem (n := 895) (by decide +kernel), by decide +kernel⟩, by decide +kernel, by decide +kernel, by decide +kernel, fun h => absurd h (by decide +kernel)⟩, List.forall_mem_cons.mpr ⟨⟨Or.inl (zmem (n := 1509) (by decide +kernel)), fun h => absurd h (by decide +kernel), fun c h => by cases h; exact ⟨zmem (n := 1510) (by decide +kernel), zmem (n := 1511) (by decide +kernel), by decide +kernel⟩, by decide +kernel, by decide +kernel, by decide +kernel, fun h => absurd h (by decide +kernel)⟩, List.forall_mem_cons.mpr ⟨⟨Or.inl (zmem (n := 921) (by decide +kernel)), fun h => absurd h (by decide +kernel), fun c h => by cases h; exact ⟨zmem (n := 922) (by decide +kernel), zmem (n := 923) (by decide +kernel), by decide +kernel⟩, by decide +kernel, by decide +kernel, by decide +kernel, fun h => absurd h (by decide +kernel)⟩, List.forall_mem_cons.mpr ⟨⟨Or.inl (zmem (n := 1532) (by decide +kernel)), fun h => absurd h (by decide +kernel), fun c h => by cases h; exact ⟨zmem (n := 1533) (by decide +kernel), zmem (n := 1534) (by decide +kernel), by decide +kernel⟩, by decide +kernel, by decide +kernel, by decide +kernel, fun h => absurd h (by decide +kernel)⟩, List.forall_mem_cons.mpr ⟨⟨Or.inl (zmem (n := 925) (by decide +kernel)), fun h => absurd h (by decide +kernel), fun c h => by cases h; exact ⟨zmem (n := 926) (by decide +kernel), zmem (n := 927) (by decide +kernel), by decide +kernel⟩, by decide +kernel, by decide +kernel, by decide +kernel, fun h => absurd h (by decide +kernel)⟩, List.forall_mem_cons.mpr ⟨⟨Or.inl (zmem (n := 1536) (by decide +kernel)), fun h => absurd h (by decide +kernel), fun c h => by cases h; exact ⟨zmem (n := 1537) (by decide +kernel), zmem (n := 1538) (by decide +kernel), by decide +kernel⟩, by decide +kernel, by decide +kernel, by decide +kernel, fun h => absurd h (by decide +kernel)⟩, List.forall_mem_cons.mpr ⟨⟨Or.inl (zmem (n := 945) (by decide +kernel)), fun h => absurd h (by decide +kernel), fun c h => by cases h; exact ⟨zmem (n := 946) (by decide +kernel), zmem (n := 947) (by decide +kernel), by decide +kernel⟩, by decide +kernel, by decide +kernel, by decide +kernel, fun h => absurd h (by decide +kernel)⟩, List.forall_mem_cons.mpr ⟨⟨Or.inl (zmem (n := 1559) (by decide +kernel)), fun h => absurd h (by decide +kernel), fun c h => by cases h; exact ⟨zmem (n := 1560) (by decide +kernel), zmem (n := 1561) (by decide +kernel), by decide +kernel⟩, by decide +kernel, by decide +kernel, by decide +kernel, fun h => absurd h (by decide +kernel)⟩, List.forall_mem_cons.mpr ⟨⟨Or.inl (zmem (n := 954) (by decide +kernel)), fun h => absurd h (by decide +kernel), fun c h => by cases h; exact ⟨zmem (n := 955) (by decide +kernel), zmem (n := 956) (by decide +kernel), by decide +kernel⟩, by decide +kernel, by decide +kernel, by decide +kernel, fun h => absurd h (by decide +kernel)⟩, List.forall_mem_cons.mpr ⟨⟨Or.inl (zmem (n := 1563) (by decide +kernel)), fun h => absurd h (by decide +kernel), fun c h => by cases h; exact ⟨zmem (n := 1564) (by decide +kernel), zmem (n := 1565) (by decide +kernel), by decide +kernel⟩, by decide +kernel, by decide +kernel, by decide +kernel, fun h => absurd h (by decide +kernel)⟩, List.forall_mem_cons.mpr ⟨⟨Or.inl (zmem (n := 962) (by decide +kernel)), fun h => absurd h (by decide +kernel), fun c h => by cases h; exact ⟨zmem (n := 963) (by decide +kernel), zmem (n := 964) (by decide +kernel), by decide +kernel⟩, by decide +kernel, by decide +kernel, by decide +kernel, fun h => absurd h (by decide +kernel)⟩, List.forall_mem_cons.mpr ⟨⟨Or.inl (zmem (n := 1567) (by decide +kernel)), fun h => absurd h (by decide +kernel), fun c h => by cases h; exact ⟨zmem (n := 1568) (by decide +kernel), zmem (n := 1569) (by decide +kernel), by decide +kernel⟩, by decide +kernel, by decide +kernel, by decide +kernel, fun h => absurd h (by decide +kernel)⟩, List.forall_mem_cons.mpr ⟨⟨Or.inl (zmem (n := 966) (by decide +kernel)), fun h => absurd h (by decide +kernel), fun c h => by cases h; exact ⟨zmem (n := 967) (by decide +kernel), zmem (n := 968) (by decide +kernel), by decide +kernel⟩, by decide +kernel, by decide +kernel, by decide +kernel, fun h => absurd h (by decide +kernel)⟩, List.forall_mem_cons.mpr ⟨⟨Or.inl (zmem (n := 1571) (by decide +kernel)), fun h => absurd h (by decide +kernel), fun c h => by cases h; exact ⟨zmem (n := 1572) (by decide +kernel), zmem (n := 1573) (by decide +kernel), by decide +kernel⟩, by decide +kernel, by decide +kernel, by decide +kernel, fun h => absurd h (by decide +kernel)⟩, List.forall_mem_cons.mpr ⟨⟨Or.inl (zmem (n := 987) (by decide +kernel)), fun h => absurd h (by decide +kernel), fun c h => by cases h; exact ⟨zmem (n := 988) (by decide +kernel), zmem (n := 989) (by decide +kernel), by decide +kernel⟩, by decide +kernel, by decide +kernel, by decide +kernel, fun h => absurd h (by decide +kernel)⟩, List.forall_mem_cons.mpr ⟨⟨Or.inl (zmem (n := 1583) (by decide +kernel)), fun h => absurd h (by decide +kernel), fun c h => by cases h; exact ⟨zmem (n := 1584) (by decide +kernel), zmem (n := 1585) (by decide +kernel), by decide +kernel⟩, by decide +kernel, by decide +kernel, by decide +kernel, fun h => absurd h (by decide +kernel)⟩, List.forall_mem_cons.mpr ⟨⟨Or.inl (zmem (n := 991) (by decide +kernel)), fun h => absurd h (by decide +kernel), fun c h => by cases h; exact ⟨zmem (n := 992) (by decide +kernel), zmem (n := 993) (by decide +kernel), by decide +kernel⟩, by decide +kernel, by decide +kernel, by decide +kernel, fun h => absurd h (by decide +kernel)⟩, List.forall_mem_cons.mpr ⟨⟨Or.inl (zmem (n := 1587) (by decide +kernel)), fun h => absurd h (by decide +kernel), fun c h => by cases h; exact ⟨zmem (n := 1588) (by decide +kernel), zmem (n := 1589) (by decide +kernel), by decide +kernel⟩, by decide +kernel, by decide +kernel, by decide +kernel, fun h => absurd h (by decide +kernel)⟩, List.forall_mem_cons.mpr ⟨⟨Or.inl (zmem (n := 995) (by decide +kernel)), fun h => absurd h (by decide +kernel), fun c h => by cases h; exact ⟨zmem (n := 996) (by decide +kernel), zmem (n := 997) (by decide +kernel), by decide +kernel⟩, by decide +kernel, by decide +kernel, by decide +kernel, fun h => absurd h (by decide +kernel)⟩, List.forall_mem_cons.mpr ⟨⟨Or.inl (zmem (n := 1591) (by decide +kernel)), fun h => absurd h (by decide +kernel), fun c h => by cases h; exact ⟨zmem (n := 1592) (by decide +kernel), zmem (n := 1593) (by decide +kernel), by decide +kernel⟩, by decide +kernel, by decide +kernel, by decide +kernel, fun h => absurd h (by decide +kernel)⟩, List.forall_mem_cons.mpr ⟨⟨Or.inl (zmem (n := 1006) (by decide +kernel)), fun h => absurd h (by decide +kernel), fun c h => by cases h; exact ⟨zmem (n := 1007) (by decide +kernel), zmem (n := 1008) (by decide +kernel), by decide +kernel⟩, by decide +kernel, by decide +kernel, by decide +kernel, fun h => absurd h (by decide +kernel)⟩, List.forall_mem_cons.mpr ⟨⟨Or.inl (zmem (n := 1596) (by decide +kernel)), fun h => absurd h (by decide +kernel), fun c h => by cases h; exact ⟨zmem (n := 1597) (by decide +kernel), zmem (n := 1598) (by decide +kernel), by decide +kernel⟩, by decide +kernel, by decide +kernel, by decide +kernel, fun h => absurd h (by decide +kernel)⟩, List.forall_mem_cons.mpr ⟨⟨Or.inl (zmem (n := 1010) (by decide +kernel)), fun h => absurd h (by decide +kernel), fun c h => by cases h; exact ⟨zmem (n := 1011) (by decide +kernel), zmem (n := 1012) (by decide +kernel), by decide +kernel⟩, by decide +kernel, by decide +kernel, by decide +kernel, fun h => absurd h (by decide +kernel)⟩, List.forall_mem_cons.mpr ⟨⟨Or.inl (zmem (n := 1602) (by decide +kernel)), fun h => absurd h (by decide +kernel), fun c h => by cases h; exact ⟨zmem (n := 1603) (by decide +kernel), zmem (n := 1604) (by decide +kernel), by decide +kernel⟩, by decide +kernel, by decide +kernel, by decide +kernel, fun h => absurd h (by decide +kernel)⟩, List.forall_mem_cons.mpr ⟨⟨Or.inl (zmem (n := 1021) (by decide +kernel)), fun h => absurd h (by decide +kernel), fun c h => by cases h; exact ⟨zmem (n := 1022) (by decide +kernel), zmem (n := 1023) (by decide +kernel), by decide +kernel⟩, by decide +kernel, by decide +kernel, by decide +kernel, fun h => absurd h (by decide +kernel)⟩, List.forall_mem_cons.mpr ⟨⟨Or.inl (zmem (n := 1606) (by decide +kernel)), fun h => absurd h (by decide +kernel), fun c h => by cases h; exact ⟨zmem (n := 1607) (by decide +kernel), zmem (n := 1608) (by decide +kernel), by decide +kernel⟩, by decide +kernel, by decide +kernel, by decide +kernel, fun h => absurd h (by decide +kernel)⟩, List.forall_mem_cons.mpr ⟨⟨Or.inl (zmem (n := 1029) (by decide +kernel)), fun h => absurd h (by decide +kernel), fun c h => by cases h; exact ⟨zmem (n := 1030) (by decide +kernel), zmem (n := 1031) (by decide +kernel), by decide +kernel⟩, by decide +kernel, by decide +kernel, by decide +kernel, fun h => absurd h (by decide +kernel)⟩, List.forall_mem_cons.mpr ⟨⟨Or.inl (zmem (n := 1614) (by decide +kernel)), fun h => absurd h (by decide +kernel), fun c h => by cases h; exact ⟨zmem (n := 1615) (by decide +kernel), zmem (n := 1616) (by decide +kernel), by decide +kernel⟩, by decide +kernel, by decide +kernel, by decide +kernel, fun h => absurd h (by decide +kernel)⟩, List.forall_mem_cons.mpr ⟨⟨Or.inl (zmem (n := 1033) (by decide +kernel)), fun h => absurd h (by decide +kernel), fun c h => by cases h; exact ⟨zmem (n := 1034) (by decide +kernel), zmem (n := 1035) (by decide +kernel), by decide +kernel⟩, by decide +kernel, by decide +kernel, by decide +kernel, fun h => absurd h (by decide +kernel)⟩, List.forall_mem_cons.mpr ⟨⟨Or.inl (zmem (n := 1618) (by decide +kernel)), fun h => absurd h (by decide +kernel), fun c h => by cases h; exact ⟨zmem (n := 1619) (by decide +kernel), zmem (n := 1620) (by decide +kernel), by decide +kernel⟩, by decide +kernel, by decide +kernel, by decide +kernel, fun h => absurd h (by decide +kernel)⟩, List.forall_mem_cons.mpr ⟨⟨Or.inl (zmem (n := 1041) (by decide +kernel)), fun h => absurd h (by decide +kernel), fun c h => by cases h; exact ⟨zmem (n := 1042) (by decide +kernel), zmem (n := 1043) (by decide +kernel), by decide +kernel⟩, by decide +kernel, by decide +kernel, by decide +kernel, fun h => absurd h (by decide +kernel)⟩, List.forall_mem_cons.mpr ⟨⟨Or.inl (zmem (n := 1718) (by decide +kernel)), fun h => absurd h (by decide +kernel), fun c h => by cases h; exact ⟨zmem (n := 1719) (by decide +kernel), zmem (n := 1720) (by decide +kernel), by decide +kernel⟩, by decide +kernel, by decide +kernel, by decide +kernel, fun h => absurd h (by decide +kernel)⟩, List.forall_mem_cons.mpr ⟨⟨Or.inl (zmem (n := 1052) (by decide +kernel)), fun h => absurd h (by decide +kernel), fun c h => by cases h; exact ⟨zmem (n := 1053) (by decide +kernel), zmem (n := 1054) (by decide +kernel), by decide +kernel⟩, by decide +kernel, by decide +kernel, by decide +kernel, fun h => absurd h (by decide +kernel)⟩, List.forall_mem_cons.mpr ⟨⟨Or.inl (zmem (n := 1726) (by decide +kernel)), fun h => absurd h (by decide +kernel), fun c h => by cases h; exact ⟨zmem (n := 1727) (by decide +kernel), zmem (n := 1728) (by decide +kernel), by decide +kernel⟩, by decide +kernel, by decide +kernel, by decide +kernel, fun h => absurd h (by decide +kernel)⟩, List.forall_mem_cons.mpr ⟨⟨Or.inl (zmem (n := 1063) (by decide +kernel)), fun h => absurd h (by decide +kernel), fun c h => by cases h; exact ⟨zmem (n := 1064) (by decide +kernel), zmem (n := 1065) (by decide +kernel), by decide +kernel⟩, by decide +kernel, by decide +kernel, by decide +kernel, fun h => absurd h (by decide +kernel)⟩, List.forall_mem_cons.mpr ⟨⟨Or.inl (zmem (n := 1733) (by decide +kernel)), fun h => absurd h (by decide +kernel), fun c h => by cases h; exact ⟨zmem (n := 1734) (by decide +kernel), zmem (n := 1735) (by decide +kernel), by decide +kernel⟩, by decide +kernel, by decide +kernel, by decide +kernel, fun h => absurd h (by decide +kernel)⟩, List.forall_mem_cons.mpr ⟨⟨Or.inl (zmem (n := 1071) (by decide +kernel)), fun h => absurd h (by decide +kernel), fun c h => by cases h; exact ⟨zmem (n := 1072) (by decide +kernel), zmem (n := 1073) (by decide +kernel), by decide +kernel⟩, by decide +kernel, by decide +kernel, by decide +kernel, fun h => absurd h (by decide +kernel)⟩, List.forall_mem_cons.mpr ⟨⟨Or.inl (zmem (n := 1741) (by decide +kernel)), fun h => absurd h (by decide +kernel), fun c h => by cases h; exact ⟨zmem (n := 1742) (by decide +kernel), zmem (n := 1743) (by decide +kernel), by decide +kernel⟩, by decide +kernel, by decide +kernel, by decide +kernel, fun h => absurd h (by decide +kernel)⟩, List.forall_mem_cons.mpr ⟨⟨Or.inl (zmem (n := 1075) (by decide +kernel)), fun h => absurd h (by decide +kernel), fun c h => by cases h; exact ⟨zmem (n := 1076) (by decide +kernel), zmem (n := 1077) (by decide +kernel), by decide +kernel⟩, by decide +kernel, by decide +kernel, by decide +kernel, fun h => absurd h (by decide +kernel)⟩, List.forall_mem_cons.mpr ⟨⟨Or.inl (zmem (n := 1747) (by decide +kernel)), fun h => absurd h (by decide +kernel), fun c h => by cases h; exact ⟨zmem (n := 1748) (by decide +kernel), zmem (n := 1749) (by decide +kernel), by decide +kernel⟩, by decide +kernel, by decide +kernel, by decide +kernel, fun h => absurd h (by decide +kernel)⟩, List.forall_mem_cons.mpr ⟨⟨Or.inl (zmem (n := 1091) (by decide +kernel)), fun h => absurd h (by decide +kernel), fun c h => by cases h; exact ⟨zmem (n := 1092) (by decide +kernel), zmem (n := 1093) (by decide +kernel), by decide +kernel⟩, by decide +kernel, by decide +kernel, by decide +kernel, fun h => absurd h (by decide +kernel)⟩, List.forall_mem_cons.mpr ⟨⟨Or.inl (zmem (n := 1751) (by decide +kernel)), fun h => absurd h (by decide +kernel), fun c h => by cases h; exact ⟨zmem (n := 1752) (by decide +kernel), zmem (n := 1753) (by decide +kernel), by decide +kernel⟩, by decide +kernel, by decide +kernel, by decide +kernel, fun h => absurd h (by decide +kernel)⟩, List.forall_mem_cons.mpr ⟨⟨Or.inl (zmem (n := 1108) (by decide +kernel)), fun h => absurd h (by decide +kernel), fun c h => by cases h; exact ⟨zmem (n := 1109) (by decide +kernel), zmem (n := 1110) (by decide +kernel), by decide +kernel⟩, by decide +kernel, by decide +kernel, by decide +kernel, fun h => absurd h (by decide +kernel)⟩, List.forall_mem_cons.mpr ⟨⟨Or.inl (zmem (n := 1761) (by decide +kernel)), fun h => absurd h (by decide +kernel), fun c h => by cases h; exact ⟨zmem (n := 1762) (by decide +kernel), zmem (n := 1763) (by decide +kernel), by decide +kernel⟩, by decide +kernel, by decide +kernel, by decide +kernel, fun h => absurd h (by decide +kernel)⟩, List.forall_mem_cons.mpr ⟨⟨Or.inl (zmem (n := 1159) (by decide +kernel)), fun h => absurd h (by decide +kernel), fun c h => by cases h; exact ⟨zmem (n := 1160) (by decide +kernel), zmem (n := 1161) (by decide +kernel), by decide +kernel⟩, by decide +kernel, by decide +kernel, by decide +kernel, fun h => absurd h (by decide +kernel)⟩, List.forall_mem_cons.mpr ⟨⟨Or.inl (zmem (n := 1789) (by decide +kernel)), fun h => absurd h (by decide +kernel), fun c h => by cases h; exact ⟨zmem (n := 1790) (by decide +kernel), zmem (n := 1791) (by decide +kernel), by decide +kernel⟩, by decide +kernel, by decide +kernel, by decide +kernel, fun h => absurd h (by decide +kernel)⟩, List.forall_mem_cons.mpr ⟨⟨Or.inl (zmem (n := 1163) (by decide +kernel)), fun h => absurd h (by decide +kernel), fun c h => by cases h; exact ⟨zmem (n := 1164) (by decide +kernel), zmem (n := 1165) (by decide +kernel), by decide +kernel⟩, by decide +kernel, by decide +kernel, by decide +kernel, fun h => absurd h (by decide +kernel)⟩, List.forall_mem_cons.mpr ⟨⟨Or.inl (zmem (n := 1797) (by decide +kernel)), fun h => absurd h (by decide +kernel), fun c h => by cases h; exact ⟨zmem (n := 1798) (by decide +kernel), zmem (n := 1799) (by decide +kernel), by decide +kernel⟩, by decide +kernel, by decide +kernel, by decide +kernel, fun h => absurd h (by decide +kernel)⟩, List.forall_mem_cons.mpr ⟨⟨Or.inl (zmem (n := 1167) (by decide +kernel)), fun h => absurd h (by decide +kernel), fun c h => by cases h; exact ⟨zmem (n := 1168) (by decide +kernel), zmem (n := 1169) (by decide +kernel), by decide +kernel⟩, by decide +kernel, by decide +kernel, by decide +kernel, fun h => absurd h (by decide +kernel)⟩, List.forall_mem_cons.mpr ⟨⟨Or.inl (zmem (n := 1801) (by decide +kernel)), fun h => absurd h (by decide +kernel), fun c h => by cases h; exact ⟨zmem (n := 1802) (by decide +kernel), zmem (n := 1803) (by decide +kernel), by decide +kernel⟩, by decide +kernel, by decide +kernel, by decide +kernel, fun h => absurd h (by decide +kernel)⟩, List.forall_mem_cons.mpr ⟨⟨Or.inl (zmem (n := 1171) (by decide +kernel)), fun h => absurd h (by decide +kernel), fun c h => by cases h; exact ⟨zmem (n := 1172) (by decide +kernel), zmem (n := 1173) (by decide +kernel), by decide +kernel⟩, by decide +kernel, by decide +kernel, by decide +kernel, fun h => absurd h (by decide +kernel)⟩, List.forall_mem_cons.mpr ⟨⟨Or.inl (zmem (n := 1805) (by decide +kernel)), fun h => absurd h (by decide +kernel), fun c h => by cases h; exact ⟨zmem (n := 1806) (by decide +kernel), zmem (n := 1807) (by decide +kernel), by decide +kernel⟩, by decide +kernel, by decide +kernel, by decide +kernel, fun h => absurd h (by decide +kernel)⟩, fun _ h => absurd h List.not_mem_nil⟩⟩⟩⟩⟩⟩⟩⟩⟩⟩⟩⟩⟩⟩⟩⟩⟩⟩⟩⟩⟩⟩⟩⟩⟩⟩⟩⟩⟩⟩⟩⟩⟩⟩⟩⟩⟩⟩⟩⟩⟩⟩⟩⟩⟩⟩⟩⟩⟩⟩⟩⟩⟩⟩⟩⟩⟩⟩⟩⟩⟩⟩⟩⟩⟩⟩⟩⟩⟩⟩⟩⟩⟩⟩⟩⟩⟩⟩⟩⟩⟩⟩⟩⟩⟩⟩⟩⟩⟩⟩⟩⟩⟩⟩⟩⟩⟩⟩
theorem zMok_16 : ∀ q ∈ zMD.getD 16 [], zMok 16 q := List.forall_mem_cons.mpr ⟨⟨Or.inl (zmem (n := 612) (by decide +kernel)), fun h => absurd h (by decide +kernel), fun c h => by cases h; exact ⟨zmem (n := 613) (by decide +kernel), zmem (n := 614) (by decide +kernel), by decide +kernel⟩, by decide +kernel, by decide +kernel, by decide +kernel, fun h => absurd h (by decide +kernel)⟩, List.forall_mem_cons.mpr ⟨⟨Or.inl (zmem (n := 622) (by decide +kernel)), fun h => absurd h (by decide +kernel), fun c h => by cases h; exact ⟨zmem (n := 623) (by decide +kernel), zmem (n := 624) (by decide +kernel), by decide +kernel⟩, by decide +kernel, by decide +kernel, by decide +kernel, fun h => absurd h (by decide +kernel)⟩, List.forall_mem_cons.mpr ⟨⟨Or.inl (zmem (n := 626) (by decide +kernel)), fun _ => zmem (n := 627) (by decide +kernel), fun _ h => absurd h.symm (Nat.succ_ne_zero _), by decide +kernel, by decide +kernel, by decide +kernel, fun h => absurd h (by decide +kernel)⟩, List.forall_mem_cons.mpr ⟨⟨Or.inl (zmem (n := 634) (by decide +kernel)), fun _ => zmem (n := 635) (by decide +kernel), fun _ h => absurd h.symm (Nat.succ_ne_zero _), by decide +kernel, by decide +kernel, by decide +kernel, fun h => absurd h (by decide +kernel)⟩, fun _ h => absurd h List.not_mem_nil⟩⟩⟩⟩
theorem zMok_17 : ∀ q ∈ zMD.getD 17 [], zMok 17 q := List.forall_mem_cons.mpr ⟨⟨Or.inl (zmem (n := 629) (by decide +kernel)), fun _ => zmem (n := 630) (by decide +kernel), fun _ h => absurd h.symm (Nat.succ_ne_zero _), by decide +kernel, by decide +kernel, by decide +kernel, fun h => absurd h (by decide +kernel)⟩, fun _ h => absurd h List.not_mem_nil⟩
theorem zMok_18 : ∀ q ∈ zMD.getD 18 [], zMok 18 q := fun _ h => absurd h List.not_mem_nil
theorem zMok_all : ∀ (own : Nat) (q : Nat × Nat × Nat × Nat), q ∈ zMD.getD own [] → zMok own q
  | 0, q, h => zMok_0 q h
  | 1, q, h => zMok_1 q h
  | 2, q, h => zMok_2 q h
  | 3, q, h => zMok_3 q h
  | 4, q, h => zMok_4 q h
  | 5, q, h => zMok_5 q h
  | 6, q, h => zMok_6 q h
  | 7, q, h => zMok_7 q h
  | 8, q, h => zMok_8 q h
  | 9, q, h => zMok_9 q h
  | 10, q, h => zMok_10 q h
  | 11, q, h => zMok_11 q h
  | 12, q, h => zMok_12 q h
  | 13, q, h => zMok_13 q h
  | 14, q, h => zMok_14 q h
  | 15, q, h => zMok_15 q h
  | 16, q, h => zMok_16 q h
  | 17, q, h => zMok_17 q h
  | 18, q, h => zMok_18 q h
  | n + 19, _, h => absurd h List.not_mem_nil
theorem zKC_ok : ∀ q ∈ zKC, Cond.constant (zcn q.1) q.2.1 q.2.2 ∈ zGW := List.forall_mem_cons.mpr ⟨zmem (n := 1002) (by decide +kernel), List.forall_mem_cons.mpr ⟨zmem (n := 1595) (by decide +kernel), List.forall_mem_cons.mpr ⟨zmem (n := 904) (by decide +kernel), List.forall_mem_cons.mpr ⟨zmem (n := 905) (by decide +kernel), List.forall_mem_cons.mpr ⟨zmem (n := 906) (by decide +kernel), fun _ h => absurd h List.not_mem_nil⟩⟩⟩⟩⟩
theorem zKL_ok : ∀ q ∈ zKL, Cond.constantLong (zcn q.1) q.2.1 q.2.2 ∈ zGW := List.forall_mem_cons.mpr ⟨zmem (n := 1308) (by decide +kernel), List.forall_mem_cons.mpr ⟨zmem (n := 1309) (by decide +kernel), List.forall_mem_cons.mpr ⟨zmem (n := 1297) (by decide +kernel), List.forall_mem_cons.mpr ⟨zmem (n := 1325) (by decide +kernel), List.forall_mem_cons.mpr ⟨zmem (n := 1395) (by decide +kernel), List.forall_mem_cons.mpr ⟨zmem (n := 1404) (by decide +kernel), List.forall_mem_cons.mpr ⟨zmem (n := 1520) (by decide +kernel), List.forall_mem_cons.mpr ⟨zmem (n := 1543) (by decide +kernel), List.forall_mem_cons.mpr ⟨zmem (n := 1600) (by decide +kernel), List.forall_mem_cons.mpr ⟨zmem (n := 1626) (by decide +kernel), List.forall_mem_cons.mpr ⟨zmem (n := 1627) (by decide +kernel), List.forall_mem_cons.mpr ⟨zmem (n := 1643) (by decide +kernel), List.forall_mem_cons.mpr ⟨zmem (n := 1644) (by decide +kernel), List.forall_mem_cons.mpr ⟨zmem (n := 1648) (by decide +kernel), List.forall_mem_cons.mpr ⟨zmem (n := 1649) (by decide +kernel), List.forall_mem_cons.mpr ⟨zmem (n := 1662) (by decide +kernel), List.forall_mem_cons.mpr ⟨zmem (n := 1663) (by decide +kernel), List.forall_mem_cons.mpr ⟨zmem (n := 1664) (by decide +kernel), List.forall_mem_cons.mpr ⟨zmem (n := 1665) (by decide +kernel), List.forall_mem_cons.mpr ⟨zmem (n := 1666) (by decide +kernel), List.forall_mem_cons.mpr ⟨zmem (n := 1667) (by decide +kernel), List.forall_mem_cons.mpr ⟨zmem (n := 1668) (by decide +kernel), List.forall_mem_cons.mpr ⟨zmem (n := 1669) (by decide +kernel), List.forall_mem_cons.mpr ⟨zmem (n := 1700) (by decide +kernel), List.forall_mem_cons.mpr ⟨zmem (n := 1701) (by decide +kernel), List.forall_mem_cons.mpr ⟨zmem (n := 1702) (by decide +kernel), List.forall_mem_cons.mpr ⟨zmem (n := 1703) (by decide +kernel), List.forall_mem_cons.mpr ⟨zmem (n := 1704) (by decide +kernel), List.forall_mem_cons.mpr ⟨zmem (n := 1687) (by decide +kernel), List.forall_mem_cons.mpr ⟨zmem (n := 1713) (by decide +kernel), List.forall_mem_cons.mpr ⟨zmem (n := 1714) (by decide +kernel), List.forall_mem_cons.mpr ⟨zmem (n := 1674) (by decide +kernel), List.forall_mem_cons.mpr ⟨zmem (n := 1715) (by decide +kernel), List.forall_mem_cons.mpr ⟨zmem (n := 1716) (by decide +kernel), List.forall_mem_cons.mpr ⟨zmem (n := 1717) (by decide +kernel), List.forall_mem_cons.mpr ⟨zmem (n := 1725) (by decide +kernel), List.forall_mem_cons.mpr ⟨zmem (n := 1745) (by decide +kernel), List.forall_mem_cons.mpr ⟨zmem (n := 1755) (by decide +kernel), List.forall_mem_cons.mpr ⟨zmem (n := 1756) (by decide +kernel), List.forall_mem_cons.mpr ⟨zmem (n := 1809) (by decide +kernel), fun _ h => absurd h List.not_mem_nil⟩⟩⟩⟩⟩⟩⟩⟩⟩⟩⟩⟩⟩⟩⟩⟩⟩⟩⟩⟩⟩⟩⟩⟩⟩⟩⟩⟩⟩⟩⟩⟩⟩⟩⟩⟩⟩⟩⟩⟩
theorem zmw_stat : Cond.static arraycopyName ∈ zGW := zmem (n := 745) (by decide +kernel)
theorem zmw_nat : Cond.native arraycopyName ∈ zGW := zmem (n := 746) (by decide +kernel)
theorem zmw_sys : Cond.initialized "java/lang/System" ∈ zGW := zmem (n := 112) (by decide +kernel)
theorem zmw_max : Cond.static Lib.Math.max.name ∈ zGW ∧ Cond.code Lib.Math.max.name Lib.Math.max.code 2 (some .int) ∈ zGW := ⟨zmem (n := 532) (by decide +kernel), zmem (n := 533) (by decide +kernel)⟩
theorem zmw_min : Cond.static Lib.Math.min.name ∈ zGW ∧ Cond.code Lib.Math.min.name Lib.Math.min.code 2 (some .int) ∈ zGW := ⟨zmem (n := 742) (by decide +kernel), zmem (n := 743) (by decide +kernel)⟩
theorem zmw_math : Cond.initialized "java/lang/Math" ∈ zGW := zmem (n := 107) (by decide +kernel)
theorem zlay_X0 : ∀ w ∈ wsX00, w ∈ zGW := List.forall_mem_cons.mpr ⟨zmem (n := 431) (by decide +kernel), List.forall_mem_cons.mpr ⟨zmem (n := 433) (by decide +kernel), List.forall_mem_cons.mpr ⟨zmem (n := 435) (by decide +kernel), List.forall_mem_cons.mpr ⟨zmem (n := 437) (by decide +kernel), List.forall_mem_cons.mpr ⟨zmem (n := 439) (by decide +kernel), List.forall_mem_cons.mpr ⟨zmem (n := 441) (by decide +kernel), fun _ h => absurd h List.not_mem_nil⟩⟩⟩⟩⟩⟩
theorem zlay_X1 : ∀ w ∈ wsX10, w ∈ zGW := List.forall_mem_cons.mpr ⟨zmem (n := 197) (by decide +kernel), List.forall_mem_cons.mpr ⟨zmem (n := 199) (by decide +kernel), List.forall_mem_cons.mpr ⟨zmem (n := 201) (by decide +kernel), List.forall_mem_cons.mpr ⟨zmem (n := 203) (by decide +kernel), List.forall_mem_cons.mpr ⟨zmem (n := 205) (by decide +kernel), List.forall_mem_cons.mpr ⟨zmem (n := 207) (by decide +kernel), List.forall_mem_cons.mpr ⟨zmem (n := 209) (by decide +kernel), List.forall_mem_cons.mpr ⟨zmem (n := 211) (by decide +kernel), List.forall_mem_cons.mpr ⟨zmem (n := 213) (by decide +kernel), List.forall_mem_cons.mpr ⟨zmem (n := 215) (by decide +kernel), fun _ h => absurd h List.not_mem_nil⟩⟩⟩⟩⟩⟩⟩⟩⟩⟩
theorem zlay_X2 : ∀ w ∈ wsX20, w ∈ zGW := List.forall_mem_cons.mpr ⟨zmem (n := 402) (by decide +kernel), List.forall_mem_cons.mpr ⟨zmem (n := 404) (by decide +kernel), List.forall_mem_cons.mpr ⟨zmem (n := 406) (by decide +kernel), List.forall_mem_cons.mpr ⟨zmem (n := 408) (by decide +kernel), List.forall_mem_cons.mpr ⟨zmem (n := 410) (by decide +kernel), List.forall_mem_cons.mpr ⟨zmem (n := 412) (by decide +kernel), fun _ h => absurd h List.not_mem_nil⟩⟩⟩⟩⟩⟩
theorem zlay_X3 : ∀ w ∈ wsX30, w ∈ zGW := List.forall_mem_cons.mpr ⟨zmem (n := 286) (by decide +kernel), List.forall_mem_cons.mpr ⟨zmem (n := 288) (by decide +kernel), List.forall_mem_cons.mpr ⟨zmem (n := 290) (by decide +kernel), List.forall_mem_cons.mpr ⟨zmem (n := 292) (by decide +kernel), List.forall_mem_cons.mpr ⟨zmem (n := 294) (by decide +kernel), fun _ h => absurd h List.not_mem_nil⟩⟩⟩⟩⟩
theorem zlay_X4 : ∀ w ∈ wsX40, w ∈ zGW := List.forall_mem_cons.mpr ⟨zmem (n := 239) (by decide +kernel), List.forall_mem_cons.mpr ⟨zmem (n := 241) (by decide +kernel), List.forall_mem_cons.mpr ⟨zmem (n := 243) (by decide +kernel), List.forall_mem_cons.mpr ⟨zmem (n := 245) (by decide +kernel), fun _ h => absurd h List.not_mem_nil⟩⟩⟩⟩
theorem zlay_X5 : ∀ w ∈ wsX50, w ∈ zGW := List.forall_mem_cons.mpr ⟨zmem (n := 262) (by decide +kernel), List.forall_mem_cons.mpr ⟨zmem (n := 264) (by decide +kernel), List.forall_mem_cons.mpr ⟨zmem (n := 266) (by decide +kernel), List.forall_mem_cons.mpr ⟨zmem (n := 268) (by decide +kernel), List.forall_mem_cons.mpr ⟨zmem (n := 270) (by decide +kernel), fun _ h => absurd h List.not_mem_nil⟩⟩⟩⟩⟩
theorem zlay_X6 : ∀ w ∈ wsX60, w ∈ zGW := List.forall_mem_cons.mpr ⟨zmem (n := 379) (by decide +kernel), List.forall_mem_cons.mpr ⟨zmem (n := 381) (by decide +kernel), fun _ h => absurd h List.not_mem_nil⟩⟩
theorem zlay_X7 : ∀ w ∈ wsX70, w ∈ zGW := List.forall_mem_cons.mpr ⟨zmem (n := 328) (by decide +kernel), List.forall_mem_cons.mpr ⟨zmem (n := 330) (by decide +kernel), List.forall_mem_cons.mpr ⟨zmem (n := 332) (by decide +kernel), List.forall_mem_cons.mpr ⟨zmem (n := 334) (by decide +kernel), List.forall_mem_cons.mpr ⟨zmem (n := 336) (by decide +kernel), List.forall_mem_cons.mpr ⟨zmem (n := 338) (by decide +kernel), List.forall_mem_cons.mpr ⟨zmem (n := 340) (by decide +kernel), fun _ h => absurd h List.not_mem_nil⟩⟩⟩⟩⟩⟩⟩
theorem zlay_X8 : ∀ w ∈ wsX80, w ∈ zGW := List.forall_mem_cons.mpr ⟨zmem (n := 155) (by decide +kernel), List.forall_mem_cons.mpr ⟨zmem (n := 157) (by decide +kernel), List.forall_mem_cons.mpr ⟨zmem (n := 159) (by decide +kernel), List.forall_mem_cons.mpr ⟨zmem (n := 161) (by decide +kernel), List.forall_mem_cons.mpr ⟨zmem (n := 163) (by decide +kernel), List.forall_mem_cons.mpr ⟨zmem (n := 165) (by decide +kernel), List.forall_mem_cons.mpr ⟨zmem (n := 167) (by decide +kernel), List.forall_mem_cons.mpr ⟨zmem (n := 169) (by decide +kernel), fun _ h => absurd h List.not_mem_nil⟩⟩⟩⟩⟩⟩⟩⟩
theorem zlay_X9 : ∀ w ∈ wsX90, w ∈ zGW := List.forall_mem_cons.mpr ⟨zmem (n := 358) (by decide +kernel), List.forall_mem_cons.mpr ⟨zmem (n := 360) (by decide +kernel), List.forall_mem_cons.mpr ⟨zmem (n := 362) (by decide +kernel), List.forall_mem_cons.mpr ⟨zmem (n := 364) (by decide +kernel), fun _ h => absurd h List.not_mem_nil⟩⟩⟩⟩
theorem zlay_X10 : ∀ w ∈ wsX100, w ∈ zGW := List.forall_mem_cons.mpr ⟨zmem (n := 307) (by decide +kernel), List.forall_mem_cons.mpr ⟨zmem (n := 309) (by decide +kernel), fun _ h => absurd h List.not_mem_nil⟩⟩
theorem zlay_X11 : ∀ w ∈ wsX110, w ∈ zGW := List.forall_mem_cons.mpr ⟨zmem (n := 454) (by decide +kernel), List.forall_mem_cons.mpr ⟨zmem (n := 456) (by decide +kernel), List.forall_mem_cons.mpr ⟨zmem (n := 458) (by decide +kernel), List.forall_mem_cons.mpr ⟨zmem (n := 460) (by decide +kernel), List.forall_mem_cons.mpr ⟨zmem (n := 462) (by decide +kernel), List.forall_mem_cons.mpr ⟨zmem (n := 464) (by decide +kernel), List.forall_mem_cons.mpr ⟨zmem (n := 466) (by decide +kernel), List.forall_mem_cons.mpr ⟨zmem (n := 468) (by decide +kernel), List.forall_mem_cons.mpr ⟨zmem (n := 470) (by decide +kernel), List.forall_mem_cons.mpr ⟨zmem (n := 472) (by decide +kernel), fun _ h => absurd h List.not_mem_nil⟩⟩⟩⟩⟩⟩⟩⟩⟩⟩
theorem zlay_X12 : ∀ w ∈ wsX120, w ∈ zGW := List.forall_mem_cons.mpr ⟨zmem (n := 1218) (by decide +kernel), List.forall_mem_cons.mpr ⟨zmem (n := 1220) (by decide +kernel), List.forall_mem_cons.mpr ⟨zmem (n := 1222) (by decide +kernel), List.forall_mem_cons.mpr ⟨zmem (n := 1224) (by decide +kernel), List.forall_mem_cons.mpr ⟨zmem (n := 1226) (by decide +kernel), List.forall_mem_cons.mpr ⟨zmem (n := 1228) (by decide +kernel), List.forall_mem_cons.mpr ⟨zmem (n := 1230) (by decide +kernel), List.forall_mem_cons.mpr ⟨zmem (n := 1232) (by decide +kernel), List.forall_mem_cons.mpr ⟨zmem (n := 1234) (by decide +kernel), List.forall_mem_cons.mpr ⟨zmem (n := 1236) (by decide +kernel), List.forall_mem_cons.mpr ⟨zmem (n := 1238) (by decide +kernel), List.forall_mem_cons.mpr ⟨zmem (n := 1240) (by decide +kernel), List.forall_mem_cons.mpr ⟨zmem (n := 1242) (by decide +kernel), List.forall_mem_cons.mpr ⟨zmem (n := 1244) (by decide +kernel), List.forall_mem_cons.mpr ⟨zmem (n := 1246) (by decide +kernel), List.forall_mem_cons.mpr ⟨zmem (n := 1248) (by decide +kernel), List.forall_mem_cons.mpr ⟨zmem (n := 1250) (by decide +kernel), List.forall_mem_cons.mpr ⟨zmem (n := 1252) (by decide +kernel), List.forall_mem_cons.mpr ⟨zmem (n := 1254) (by decide +kernel), List.forall_mem_cons.mpr ⟨zmem (n := 1256) (by decide +kernel), List.forall_mem_cons.mpr ⟨zmem (n := 1258) (by decide +kernel), List.forall_mem_cons.mpr ⟨zmem (n := 1260) (by decide +kernel), List.forall_mem_cons.mpr ⟨zmem (n := 1262) (by decide +kernel), List.forall_mem_cons.mpr ⟨zmem (n := 1264) (by decide +kernel), List.forall_mem_cons.mpr ⟨zmem (n := 1266) (by decide +kernel), List.forall_mem_cons.mpr ⟨zmem (n := 1268) (by decide +kernel), List.forall_mem_cons.mpr ⟨zmem (n := 1270) (by decide +kernel), List.forall_mem_cons.mpr ⟨zmem (n := 1272) (by decide +kernel), List.forall_mem_cons.mpr ⟨zmem (n := 1274) (by decide +kernel), List.forall_mem_cons.mpr ⟨zmem (n := 1276) (by decide +kernel), List.forall_mem_cons.mpr ⟨zmem (n := 1278) (by decide +kernel), List.forall_mem_cons.mpr ⟨zmem (n := 1280) (by decide +kernel), List.forall_mem_cons.mpr ⟨zmem (n := 1282) (by decide +kernel), List.forall_mem_cons.mpr ⟨zmem (n := 1284) (by decide +kernel), List.forall_mem_cons.mpr ⟨zmem (n := 1286) (by decide +kernel), List.forall_mem_cons.mpr ⟨zmem (n := 1288) (by decide +kernel), List.forall_mem_cons.mpr ⟨zmem (n := 1290) (by decide +kernel), fun _ h => absurd h List.not_mem_nil⟩⟩⟩⟩⟩⟩⟩⟩⟩⟩⟩⟩⟩⟩⟩⟩⟩⟩⟩⟩⟩⟩⟩⟩⟩⟩⟩⟩⟩⟩⟩⟩⟩⟩⟩⟩⟩
end
section
/-! A small interpreter of the methods that make nothing: values, memory, one step, runs, calls. Memory is flat: cell (g, k), place i; k tells the kind, g which one of the kind. -/
abbrev zV : Type := Int32 ⊕ Int64 ⊕ (Nat × Nat)
abbrev zM : Type := (Nat → Nat → Nat → Int32) × (Nat → Nat → Nat → Int64)
abbrev zR : Type := Option (Int32 × Int64 × zM)
abbrev zL : Type := List (Option zV)
abbrev zC : Type := Nat → List zV → zM → zR
abbrev zKt : Type := Nat → zL → List zV → zM → zR
/-- an instruction: itself, the next place, the target, constants, the cases of a switch, which locals are asked from here on ([]: any) -/
abbrev zE : Type := ClassFile.Instr × Nat × Nat × Int32 × Int64 × List (Int32 × Nat) × List Bool
/-- a method: its class, its code, what it returns, its locals -/
abbrev zT : Type := Nat × List (List (Nat × zE)) × Nat × Nat
/-- a choice that leaves no trace -/
def zcb (b : Bool) (x y : zR) : zR := match b with
  | true => x
  | false => y
/-- a guard that is never looked into by computing -/
noncomputable def zgS : { f : Bool → zR → zR // ∀ b x, f b x = zcb b x none } := Classical.choice ⟨⟨fun b x => zcb b x none, fun _ _ => rfl⟩⟩
noncomputable def zgd (b : Bool) (x : zR) : zR := zgS.1 b x
theorem zgd_eq (b : Bool) (x : zR) : zgd b x = zcb b x none := zgS.2 b x
theorem zgd_t {b : Bool} {x : zR} (h : b = true) : zgd b x = x := by rw [zgd_eq, h]; rfl
theorem zgd_some {b : Bool} {x : zR} {r} (h : zgd b x = some r) : b = true ∧ x = some r := by
  rw [zgd_eq] at h
  cases b
  · cases h
  · exact ⟨rfl, h⟩
def zin (x : Int32) (n : Nat) : Bool := decide (0 ≤ x) && Nat.blt x.toNatClampNeg n
def z01 (x : Int32) : Bool := decide (x = 0) || decide (x = 1)
def zget : zL → Nat → Option zV
  | [], _ => none
  | v :: _, 0 => v
  | _ :: r, n + 1 => zget r n
def zput : zL → Nat → zV → zL
  | [], _, _ => []
  | _ :: r, 0, v => some v :: r
  | a :: r, 1, v => (match a with | some (.inr (.inl _)) => none | b => b) :: zput r 0 v
  | a :: r, n + 2, v => a :: zput r (n + 1) v
def zcut : zL → Nat → zL
  | [], _ => []
  | _ :: r, 0 => none :: r
  | a :: r, n + 1 => a :: zcut r n
/-- only the locals that are asked later on -/
def zmk : List Bool → zL → zL
  | [], l => l
  | _ :: _, [] => []
  | b :: m, v :: l => (bif b then v else none) :: zmk m l
def zwI (σ : zM) (g k i : Nat) (v : Int32) : zM := (fun g' k' i' => if g' = g ∧ k' = k ∧ i' = i then v else σ.1 g' k' i', σ.2)
def zwL (σ : zM) (g k i : Nat) (v : Int64) : zM := (σ.1, fun g' k' i' => if g' = g ∧ k' = k ∧ i' = i then v else σ.2 g' k' i')
def zpop : Nat → List zV → List zV → Option (List zV × List zV)
  | 0, st, acc => some (acc, st)
  | _ + 1, [], _ => none
  | n + 1, v :: st, acc => zpop n st (v :: acc)
def zas : List (Nat × zE) → Nat → Option zE
  | [], _ => none
  | (p, e) :: r, k => bif Nat.beq p k then some e else zas r k
def zfa : List (Nat × Nat × Nat) → Nat → Option (Nat × Nat)
  | [], _ => none
  | (p, e) :: r, k => bif Nat.beq p k then some e else zfa r k
/-- a call's words: number of the method, how many values, the class of the receiver and 1 more, 0: static -/
def zma : List (Nat × Nat × Nat × Nat) → Nat → Option (Nat × Nat × Nat)
  | [], _ => none
  | (p, e) :: r, k => bif Nat.beq p k then some e else zma r k
def zsw (K : Nat → zR) (x : Int32) (df : Nat) : List (Int32 × Nat) → zR
  | [] => K df
  | (v, t) :: r => if x = v then K t else zsw K x df r
def zo1 (st : List zV) (f : Int32 → List zV → zR) : zR := match st with | .inl x :: r => f x r | _ => none
def zo2 (st : List zV) (f : Int32 → Int32 → List zV → zR) : zR := match st with | .inl y :: .inl x :: r => f y x r | _ => none
def zl1 (st : List zV) (f : Int64 → List zV → zR) : zR := match st with | .inr (.inl x) :: r => f x r | _ => none
def zl2 (st : List zV) (f : Int64 → Int64 → List zV → zR) : zR := match st with | .inr (.inl y) :: .inr (.inl x) :: r => f y x r | _ => none
def zli (st : List zV) (f : Int32 → Int64 → List zV → zR) : zR := match st with | .inl y :: .inr (.inl x) :: r => f y x r | _ => none
def zr1 (st : List zV) (f : Nat → Nat → List zV → zR) : zR := match st with | .inr (.inr (g, k)) :: r => f g k r | _ => none
def zir (st : List zV) (f : Int32 → Nat → Nat → List zV → zR) : zR := match st with | .inl i :: .inr (.inr (g, k)) :: r => f i g k r | _ => none
def ziir (st : List zV) (f : Int32 → Int32 → Nat → Nat → List zV → zR) : zR := match st with | .inl v :: .inl i :: .inr (.inr (g, k)) :: r => f v i g k r | _ => none
def zlir (st : List zV) (f : Int64 → Int32 → Nat → Nat → List zV → zR) : zR := match st with | .inr (.inl v) :: .inl i :: .inr (.inr (g, k)) :: r => f v i g k r | _ => none
def zvI (v : Option zV) (f : Int32 → zR) : zR := match v with | some (.inl x) => f x | _ => none
def zvL (v : Option zV) (f : Int64 → zR) : zR := match v with | some (.inr (.inl x)) => f x | _ => none
def zvR (v : Option zV) (f : Nat → Nat → zR) : zR := match v with | some (.inr (.inr (g, k))) => f g k | _ => none
/-- of a cell's kind: 0 an object of the class n, 1 ints, 2 longs, 3 rows of ints, 4 rows of longs, 5 the script, 6 a text, 7 a text's bytes -/
def zkd (k : Nat) : Nat × Nat := zKD.getD k (9, 0)
/-- where a field leads: none: a number's; else the group (none: the same) and the kind -/
def zed (k j : Nat) : Option (Option Nat × Nat) := (zED.getD k []).getD j none
def zfd (own i : Nat) : Option (Nat × Nat) := zfa (zFD.getD own []) i
def zmd (own i : Nat) : Option (Nat × Nat × Nat) := zma (zMD.getD own []) i
def zsd (own i : Nat) : Option Nat := (zfa (zSD.getD own []) i).map Prod.fst
def zret (rk : Nat) (x : Int32) : Bool := match rk with
  | 1 => true
  | 3 => z01 x
  | 4 => decide (0 ≤ x) && decide (x < 65536)
  | 5 => decide (-128 ≤ x) && decide (x < 128)
  | _ => false
def zcal (rk nx : Nat) (K : zKt) (ls : zL) (rest : List zV) (x : Int32 × Int64 × zM) : zR := match rk with
  | 0 => K nx ls rest x.2.2
  | 2 => K nx ls (.inr (.inl x.2.1) :: rest) x.2.2
  | _ => K nx ls (.inl x.1 :: rest) x.2.2
/-- the receiver is of the class -/
def zrc (rc : Nat) (as : List zV) : Bool := match rc with
  | 0 => true
  | c + 1 => match as with
    | .inr (.inr (_, k)) :: _ => match zkd k with
      | (0, n) => Nat.beq n c
      | (6, _) => Nat.beq 16 c
      | _ => false
    | _ => false
/-- how much lies on the stack -/
def zsz : List zV → Nat
  | [] => 0
  | .inr (.inl _) :: r => zsz r + 2
  | _ :: r => zsz r + 1
def zslen (σ : zM) : Nat := (σ.1 0 91 0).toNatClampNeg
/-- no script among them -/
def zna : List zV → Bool
  | [] => true
  | .inr (.inr (_, k)) :: r => !(Nat.beq k 90) && zna r
  | _ :: r => zna r
def zvf : Bool → Nat → Bool
  | true, 0 => false
  | true, _ => true
  | false, 0 => true
  | false, _ => false
noncomputable def zinv (C : zC) (own nx i : Nat) (vf : Bool) (K : zKt) (ls : zL) (st : List zV) (σ : zM) : zR :=
  match zmd own i with
  | none => none
  | some (j, n, rc) => match zpop n st [] with
    | none => none
    | some (as, rest) => zcb (zrc rc as && (Nat.ble (zsz rest) 8 && (zna as && zvf vf rc))) ((C j as σ).bind (zcal (zMI.getD j (0, 9)).2 nx K ls rest)) none
noncomputable def zop (C : zC) (own rk : Nat) (K : zKt) (ls : zL) (st : List zV) (σ : zM) : zE → zR
  | (ins, nx, tg, c, d, sw, _) => match ins with
    | .iconst _ => K nx ls (.inl c :: st) σ
    | .bipush _ => K nx ls (.inl c :: st) σ
    | .sipush _ => K nx ls (.inl c :: st) σ
    | .ldc i => match zsd own i with
      | some j => K nx ls (.inr (.inr (j, 95)) :: st) σ
      | none => K nx ls (.inl c :: st) σ
    | .ldc_w _ => K nx ls (.inl c :: st) σ
    | .lconst _ => K nx ls (.inr (.inl d) :: st) σ
    | .ldc2_w _ => K nx ls (.inr (.inl d) :: st) σ
    | .iload_n a => zvI (zget ls a.val) fun x => K nx ls (.inl x :: st) σ
    | .iload a => zvI (zget ls a) fun x => K nx ls (.inl x :: st) σ
    | .lload_n a => zvL (zget ls a.val) fun x => K nx ls (.inr (.inl x) :: st) σ
    | .lload a => zvL (zget ls a) fun x => K nx ls (.inr (.inl x) :: st) σ
    | .aload_n a => zvR (zget ls a.val) fun g k => zcb (Nat.beq k 99) none (K nx ls (.inr (.inr (g, k)) :: st) σ)
    | .istore_n a => zo1 st fun x r => K nx (zput ls a.val (.inl x)) r σ
    | .istore a => zo1 st fun x r => K nx (zput ls a (.inl x)) r σ
    | .lstore_n a => zl1 st fun x r => K nx (zcut (zput ls a.val (.inr (.inl x))) (a.val + 1)) r σ
    | .iinc a _ => zvI (zget ls a) fun x => K nx (zput ls a (.inl (x + c))) st σ
    | .iadd => zo2 st fun y x r => K nx ls (.inl (x + y) :: r) σ
    | .isub => zo2 st fun y x r => K nx ls (.inl (x - y) :: r) σ
    | .imul => zo2 st fun y x r => K nx ls (.inl (x * y) :: r) σ
    | .idiv => zo2 st fun y x r => if y = 0 then none else K nx ls (.inl (x / y) :: r) σ
    | .irem => zo2 st fun y x r => if y = 0 then none else K nx ls (.inl (x - x / y * y) :: r) σ
    | .ineg => zo1 st fun x r => K nx ls (.inl (-x) :: r) σ
    | .iand => zo2 st fun y x r => K nx ls (.inl (x &&& y) :: r) σ
    | .ior => zo2 st fun y x r => K nx ls (.inl (x ||| y) :: r) σ
    | .ixor => zo2 st fun y x r => K nx ls (.inl (x ^^^ y) :: r) σ
    | .ishl => zo2 st fun y x r => K nx ls (.inl (x <<< (y &&& 31)) :: r) σ
    | .ishr => zo2 st fun y x r => K nx ls (.inl (x >>> (y &&& 31)) :: r) σ
    | .iushr => zo2 st fun y x r => K nx ls (.inl (x.toUInt32 >>> (y.toUInt32 &&& Int32.toUInt32 31)).toInt32 :: r) σ
    | .ladd => zl2 st fun y x r => K nx ls (.inr (.inl (x + y)) :: r) σ
    | .lmul => zl2 st fun y x r => K nx ls (.inr (.inl (x * y)) :: r) σ
    | .land => zl2 st fun y x r => K nx ls (.inr (.inl (x &&& y)) :: r) σ
    | .lor => zl2 st fun y x r => K nx ls (.inr (.inl (x ||| y)) :: r) σ
    | .lshl => zli st fun y x r => K nx ls (.inr (.inl (x <<< (y.toInt64 &&& 63))) :: r) σ
    | .lshr => zli st fun y x r => K nx ls (.inr (.inl (x >>> (y.toInt64 &&& 63))) :: r) σ
    | .lushr => zli st fun y x r => K nx ls (.inr (.inl (x.toUInt64 >>> (y.toInt64.toUInt64 &&& Int64.toUInt64 63)).toInt64) :: r) σ
    | .lcmp => zl2 st fun y x r => K nx ls (.inl (lg_cmp x y) :: r) σ
    | .i2l => zo1 st fun x r => K nx ls (.inr (.inl x.toInt64) :: r) σ
    | .l2i => zl1 st fun x r => K nx ls (.inl x.toInt32 :: r) σ
    | .i2b => zo1 st fun x r => K nx ls (.inl x.toInt8.toInt32 :: r) σ
    | .i2s => zo1 st fun x r => K nx ls (.inl x.toInt16.toInt32 :: r) σ
    | .i2c => zo1 st fun x r => K nx ls (.inl (x.toUInt32 % 65536).toInt32 :: r) σ
    | .dup => match st with
      | .inl x :: r => K nx ls (.inl x :: .inl x :: r) σ
      | .inr (.inr q) :: r => K nx ls (.inr (.inr q) :: .inr (.inr q) :: r) σ
      | _ => none
    | .pop => match st with
      | .inl _ :: r => K nx ls r σ
      | .inr (.inr _) :: r => K nx ls r σ
      | _ => none
    | .dup2 => zir st fun i g k r => K nx ls (.inl i :: .inr (.inr (g, k)) :: .inl i :: .inr (.inr (g, k)) :: r) σ
    | .goto _ => K tg ls st σ
    | .ifCond .eq _ => zo1 st fun x r => if x = 0 then K tg ls r σ else K nx ls r σ
    | .ifCond .ne _ => zo1 st fun x r => if x = 0 then K nx ls r σ else K tg ls r σ
    | .ifCond .lt _ => zo1 st fun x r => if x < 0 then K tg ls r σ else K nx ls r σ
    | .ifCond .ge _ => zo1 st fun x r => if x < 0 then K nx ls r σ else K tg ls r σ
    | .ifCond .gt _ => zo1 st fun x r => if 0 < x then K tg ls r σ else K nx ls r σ
    | .ifCond .le _ => zo1 st fun x r => if 0 < x then K nx ls r σ else K tg ls r σ
    | .if_icmp .eq _ => zo2 st fun y x r => if x = y then K tg ls r σ else K nx ls r σ
    | .if_icmp .ne _ => zo2 st fun y x r => if x = y then K nx ls r σ else K tg ls r σ
    | .if_icmp .lt _ => zo2 st fun y x r => if x < y then K tg ls r σ else K nx ls r σ
    | .if_icmp .ge _ => zo2 st fun y x r => if x < y then K nx ls r σ else K tg ls r σ
    | .if_icmp .gt _ => zo2 st fun y x r => if y < x then K tg ls r σ else K nx ls r σ
    | .if_icmp .le _ => zo2 st fun y x r => if y < x then K nx ls r σ else K tg ls r σ
    | .tableswitch _ _ _ _ => zo1 st fun x r => zsw (fun t => K t ls r σ) x tg sw
    | .lookupswitch _ _ => zo1 st fun x r => zsw (fun t => K t ls r σ) x tg sw
    | .getfield i => zr1 st fun g k r => match zfd own i with
      | none => none
      | some (ci, j) => match zkd k with
        | (0, n) => zcb (Nat.beq n ci) (match zed k j with
          | none => K nx ls (.inl (σ.1 g k j) :: r) σ
          | some (none, k2) => K nx ls (.inr (.inr (g, k2)) :: r) σ
          | some (some g2, k2) => K nx ls (.inr (.inr (g2, k2)) :: r) σ) none
        | (6, _) => zcb (Nat.beq 16 ci) (match j with
          | 0 => K nx ls (.inr (.inr (g, 96)) :: r) σ
          | _ => K nx ls (.inl 0 :: r) σ) none
        | _ => none
    | .putfield i => match st with
      | .inl x :: .inr (.inr (g, k)) :: r => match zfd own i with
        | none => none
        | some (ci, j) => match zkd k with
          | (0, n) => zcb (Nat.beq n ci && (zed k j).isNone) (zcb (zbl ci j) (zgd (z01 x) (K nx ls r (zwI σ g k j x))) (K nx ls r (zwI σ g k j x))) none
          | _ => none
      | _ => none
    | .getstatic i => match zfd own i with
      | some (17, 0) => K nx ls (.inl 1 :: st) σ
      | some (17, 1) => K nx ls (.inr (.inr (0, 99)) :: st) σ
      | _ => none
    | .iaload => zir st fun i g k r => match zkd k with
      | (1, n) => (match tg with
        | 0 => zgd (zin i n) (K nx ls (.inl (σ.1 g k i.toNatClampNeg) :: r) σ)
        | m + 1 => zcb (decide (i = nI m) && Nat.blt m n) (K nx ls (.inl (σ.1 g k m) :: r) σ) none)
      | (5, _) => zgd (zin i (zslen σ)) (K nx ls (.inl (σ.1 g k i.toNatClampNeg) :: r) σ)
      | _ => none
    | .laload => zir st fun i g k r => match zkd k with
      | (2, n) => zgd (zin i n) (K nx ls (.inr (.inl (σ.2 g k i.toNatClampNeg)) :: r) σ)
      | _ => none
    | .aaload => zir st fun i _ k r => match zkd k with
      | (3, n) => zgd (zin i n) (K nx ls (.inr (.inr (i.toNatClampNeg, k + 1)) :: r) σ)
      | (4, n) => zgd (zin i n) (K nx ls (.inr (.inr (i.toNatClampNeg, k + 1)) :: r) σ)
      | _ => none
    | .baload => zir st fun i g k r => match zkd k with
      | (7, _) => zgd (zin i (zSL.getD g []).length) (K nx ls (.inl ((zSL.getD g []).getD i.toNatClampNeg 0) :: r) σ)
      | _ => none
    | .iastore => ziir st fun v i g k r => match zkd k with
      | (1, n) => (match tg with
        | 0 => zgd (zin i n) (K nx ls r (zwI σ g k i.toNatClampNeg v))
        | m + 1 => zcb (decide (i = nI m) && Nat.blt m n) (K nx ls r (zwI σ g k m v)) none)
      | _ => none
    | .lastore => zlir st fun v i g k r => match zkd k with
      | (2, n) => zgd (zin i n) (K nx ls r (zwL σ g k i.toNatClampNeg v))
      | _ => none
    | .arraylength => zr1 st fun g k r => match zkd k with
      | (1, n) => K nx ls (.inl (nI n) :: r) σ
      | (5, _) => K nx ls (.inl (σ.1 0 91 0) :: r) σ
      | (7, _) => K nx ls (.inl (nI (zSL.getD g []).length) :: r) σ
      | _ => none
    | .invokevirtual i => zinv C own nx i true K ls st σ
    | .invokestatic i => zinv C own nx i false K ls st σ
    | .ireturn => match st with
      | [.inl x] => (match rk with
        | 1 => some (x, 0, σ)
        | _ => zgd (zret rk x) (some (x, 0, σ)))
      | _ => none
    | .lreturn => match st with
      | [.inr (.inl x)] => zcb (Nat.beq rk 2) (some (0, x, σ)) none
      | _ => none
    | .return_ => match st with
      | [] => zcb (Nat.beq rk 0) (some (0, 0, σ)) none
      | _ => none
    | _ => none
noncomputable def zst (C : zC) (T : zT) (K : zKt) (pc : Nat) (ls : zL) (st : List zV) (σ : zM) : zR :=
  match zas (T.2.1.getD (pc / 32) []) pc with
  | none => none
  | some e => zop C T.1 T.2.2.1 K (zmk e.2.2.2.2.2.2 ls) st σ e
noncomputable def zrF (C : zC) (T : zT) : Nat → zKt
  | 0 => fun _ _ _ _ => none
  | n + 1 => zst C T (zrF C T n)
/-- the run, to its end -/
noncomputable def zrun (C : zC) (T : zT) : zKt := fun pc ls st σ =>
  @dite zR (∃ r, ∃ n, zrF C T n pc ls st σ = some r) (Classical.propDecidable _) (fun h => some (Classical.choose h)) (fun _ => none)
/-- as far as n steps lead, or to a cut -/
noncomputable def zit (C : zC) (T : zT) (cuts : List Nat) : Nat → zKt
  | 0 => zrun C T
  | n + 1 => fun pc ls st σ => zcb (cuts.any (Nat.beq pc)) (zrun C T pc ls st σ) (zst C T (zit C T cuts n) pc ls st σ)
end
section
noncomputable def zI_0 : List (List (Nat × zE)) := [[(0, (.aload_n 0, 1, 0, 0, 0, [], [])), (1, (.iload_n 1, 2, 0, 0, 0, [], [])), (2, (.putfield 15, 5, 0, 0, 0, [], [])), (5, (.aload_n 0, 6, 0, 0, 0, [], [])), (6, (.iload_n 2, 7, 0, 0, 0, [], [])), (7, (.putfield 19, 10, 0, 0, 0, [], [])), (10, (.aload_n 0, 11, 0, 0, 0, [], [])), (11, (.iload_n 3, 12, 0, 0, 0, [], [])), (12, (.putfield 22, 15, 0, 0, 0, [], [])), (15, (.aload_n 0, 16, 0, 0, 0, [], [])), (16, (.iconst 0, 17, 0, 0, 0, [], [])), (17, (.putfield 25, 20, 0, 0, 0, [], [])), (20, (.return_, 21, 0, 0, 0, [], []))]]
noncomputable abbrev zT_0 : zT := (0, zI_0, 0, 4) -- X0_take
noncomputable def zI_1 : List (List (Nat × zE)) := [[(0, (.aload_n 0, 1, 0, 0, 0, [], [])), (1, (.getfield 25, 4, 0, 0, 0, [], [])), (4, (.ifCond .ne 32, 7, 36, 0, 0, [], [])), (7, (.aload_n 0, 8, 0, 0, 0, [], [])), (8, (.getfield 29, 11, 0, 0, 0, [], [])), (11, (.bipush 30, 13, 0, 30, 0, [], [])), (13, (.if_icmp .ge 23, 16, 36, 0, 0, [], [])), (16, (.aload_n 0, 17, 0, 0, 0, [], [])), (17, (.getfield 9, 20, 0, 0, 0, [], [])), (20, (.aload_n 0, 21, 0, 0, 0, [], [])), (21, (.getfield 29, 24, 0, 0, 0, [], [])), (24, (.iload_n 1, 25, 0, 0, 0, [], [])), (25, (.iastore, 26, 0, 0, 0, [], [])), (26, (.aload_n 0, 27, 0, 0, 0, [], [])), (27, (.dup, 28, 0, 0, 0, [], [])), (28, (.getfield 29, 31, 0, 0, 0, [], [])), (31, (.iconst 1, 32, 0, 1, 0, [], []))],
  [(32, (.iadd, 33, 0, 0, 0, [], [])), (33, (.putfield 29, 36, 0, 0, 0, [], [])), (36, (.return_, 37, 0, 0, 0, [], []))]]
noncomputable abbrev zT_1 : zT := (0, zI_1, 0, 2) -- X0_begin
noncomputable def zI_2 : List (List (Nat × zE)) := [[(0, (.aload_n 0, 1, 0, 0, 0, [], [])), (1, (.getfield 15, 4, 0, 0, 0, [], [])), (4, (.lookupswitch 59 #[(1, 28), (3, 42)], 32, 63, 0, 0, [(1, 32), (3, 46)], []))],
  [(32, (.aload_n 0, 33, 0, 0, 0, [], [])), (33, (.bipush 20, 35, 0, 20, 0, [], [])), (35, (.invokevirtual 32, 38, 0, 0, 0, [], [])), (38, (.aload_n 0, 39, 0, 0, 0, [], [])), (39, (.iload_n 1, 40, 0, 0, 0, [], [])), (40, (.invokevirtual 36, 43, 0, 0, 0, [], [])), (43, (.iconst 3, 44, 0, 3, 0, [], [])), (44, (.imul, 45, 0, 0, 0, [], [])), (45, (.ireturn, 46, 0, 0, 0, [], [])), (46, (.aload_n 0, 47, 0, 0, 0, [], [])), (47, (.bipush 50, 49, 0, 50, 0, [], [])), (49, (.invokevirtual 32, 52, 0, 0, 0, [], [])), (52, (.aload_n 0, 53, 0, 0, 0, [], [])), (53, (.iload_n 1, 54, 0, 0, 0, [], [])), (54, (.invokevirtual 36, 57, 0, 0, 0, [], [])), (57, (.aload_n 0, 58, 0, 0, 0, [], [])), (58, (.getfield 19, 61, 0, 0, 0, [], [])), (61, (.ixor, 62, 0, 0, 0, [], [])), (62, (.ireturn, 63, 0, 0, 0, [], [])), (63, (.aload_n 0, 64, 0, 0, 0, [], []))],
  [(64, (.iload_n 1, 65, 0, 0, 0, [], [])), (65, (.invokevirtual 36, 68, 0, 0, 0, [], [])), (68, (.ireturn, 69, 0, 0, 0, [], []))]]
noncomputable abbrev zT_2 : zT := (0, zI_2, 1, 2) -- X0_sways
noncomputable def zI_3 : List (List (Nat × zE)) := [[(0, (.aload_n 0, 1, 0, 0, 0, [], [])), (1, (.getfield 15, 4, 0, 0, 0, [], [])), (4, (.tableswitch 63 2 5 #[32, 32, 63, 49], 36, 67, 0, 0, [(2, 36), (3, 36), (4, 67), (5, 53)], []))],
  [(36, (.aload_n 0, 37, 0, 0, 0, [], [])), (37, (.bipush 30, 39, 0, 30, 0, [], [])), (39, (.invokevirtual 32, 42, 0, 0, 0, [], [])), (42, (.aload_n 0, 43, 0, 0, 0, [], [])), (43, (.iload_n 1, 44, 0, 0, 0, [], [])), (44, (.invokevirtual 40, 47, 0, 0, 0, [], [])), (47, (.aload_n 0, 48, 0, 0, 0, [], [])), (48, (.getfield 22, 51, 0, 0, 0, [], [])), (51, (.isub, 52, 0, 0, 0, [], [])), (52, (.ireturn, 53, 0, 0, 0, [], [])), (53, (.aload_n 0, 54, 0, 0, 0, [], [])), (54, (.bipush 60, 56, 0, 60, 0, [], [])), (56, (.invokevirtual 32, 59, 0, 0, 0, [], [])), (59, (.iconst 0, 60, 0, 0, 0, [], [])), (60, (.aload_n 0, 61, 0, 0, 0, [], [])), (61, (.iload_n 1, 62, 0, 0, 0, [], [])), (62, (.invokevirtual 40, 65, 0, 0, 0, [], []))],
  [(65, (.isub, 66, 0, 0, 0, [], [])), (66, (.ireturn, 67, 0, 0, 0, [], [])), (67, (.aload_n 0, 68, 0, 0, 0, [], [])), (68, (.iload_n 1, 69, 0, 0, 0, [], [])), (69, (.invokevirtual 40, 72, 0, 0, 0, [], [])), (72, (.ireturn, 73, 0, 0, 0, [], []))]]
noncomputable abbrev zT_3 : zT := (0, zI_3, 1, 2) -- X0_bends
noncomputable def zI_4 : List (List (Nat × zE)) := [[(0, (.aload_n 0, 1, 0, 0, 0, [], [])), (1, (.getfield 15, 4, 0, 0, 0, [], [])), (4, (.lookupswitch 55 #[(4, 28), (5, 34)], 32, 59, 0, 0, [(4, 32), (5, 38)], []))],
  [(32, (.aload_n 0, 33, 0, 0, 0, [], [])), (33, (.iload_n 1, 34, 0, 0, 0, [], [])), (34, (.invokevirtual 43, 37, 0, 0, 0, [], [])), (37, (.ireturn, 38, 0, 0, 0, [], [])), (38, (.aload_n 0, 39, 0, 0, 0, [], [])), (39, (.bipush 61, 41, 0, 61, 0, [], [])), (41, (.invokevirtual 32, 44, 0, 0, 0, [], [])), (44, (.aload_n 0, 45, 0, 0, 0, [], [])), (45, (.iload_n 1, 46, 0, 0, 0, [], [])), (46, (.invokevirtual 43, 49, 0, 0, 0, [], [])), (49, (.aload_n 0, 50, 0, 0, 0, [], [])), (50, (.aload_n 0, 51, 0, 0, 0, [], [])), (51, (.getfield 22, 54, 0, 0, 0, [], [])), (54, (.invokevirtual 46, 57, 0, 0, 0, [], [])), (57, (.iadd, 58, 0, 0, 0, [], [])), (58, (.ireturn, 59, 0, 0, 0, [], [])), (59, (.aload_n 0, 60, 0, 0, 0, [], [])), (60, (.iload_n 1, 61, 0, 0, 0, [], [])), (61, (.invokevirtual 49, 64, 0, 0, 0, [], []))],
  [(64, (.ireturn, 65, 0, 0, 0, [], []))]]
noncomputable abbrev zT_4 : zT := (0, zI_4, 1, 2) -- X0_shares
noncomputable def zI_5 : List (List (Nat × zE)) := [[(0, (.aload_n 0, 1, 0, 0, 0, [], [])), (1, (.getfield 15, 4, 0, 0, 0, [], [])), (4, (.iconst 3, 5, 0, 3, 0, [], [])), (5, (.if_icmp .eq 9, 8, 14, 0, 0, [], [])), (8, (.aload_n 0, 9, 0, 0, 0, [], [])), (9, (.iload_n 1, 10, 0, 0, 0, [], [])), (10, (.invokevirtual 52, 13, 0, 0, 0, [], [])), (13, (.ireturn, 14, 0, 0, 0, [], [])), (14, (.aload_n 0, 15, 0, 0, 0, [], [])), (15, (.bipush 51, 17, 0, 51, 0, [], [])), (17, (.invokevirtual 32, 20, 0, 0, 0, [], [])), (20, (.aload_n 0, 21, 0, 0, 0, [], [])), (21, (.iload_n 1, 22, 0, 0, 0, [], [])), (22, (.invokevirtual 52, 25, 0, 0, 0, [], [])), (25, (.aload_n 0, 26, 0, 0, 0, [], [])), (26, (.aload_n 0, 27, 0, 0, 0, [], [])), (27, (.getfield 19, 30, 0, 0, 0, [], [])), (30, (.invokevirtual 55, 33, 0, 0, 0, [], []))],
  [(33, (.iadd, 34, 0, 0, 0, [], [])), (34, (.ireturn, 35, 0, 0, 0, [], []))]]
noncomputable abbrev zT_5 : zT := (0, zI_5, 1, 2) -- X0_tells
noncomputable def zI_6 : List (List (Nat × zE)) := [[(0, (.aload_n 0, 1, 0, 0, 0, [], [])), (1, (.bipush 10, 3, 0, 10, 0, [], [])), (3, (.invokevirtual 32, 6, 0, 0, 0, [], [])), (6, (.iload_n 1, 7, 0, 0, 0, [], [])), (7, (.aload_n 0, 8, 0, 0, 0, [], [])), (8, (.getfield 19, 11, 0, 0, 0, [], [])), (11, (.iadd, 12, 0, 0, 0, [], [])), (12, (.ireturn, 13, 0, 0, 0, [], []))]]
noncomputable abbrev zT_6 : zT := (0, zI_6, 1, 2) -- X0_plainSways
noncomputable def zI_7 : List (List (Nat × zE)) := [[(0, (.aload_n 0, 1, 0, 0, 0, [], [])), (1, (.bipush 11, 3, 0, 11, 0, [], [])), (3, (.invokevirtual 32, 6, 0, 0, 0, [], [])), (6, (.aload_n 0, 7, 0, 0, 0, [], [])), (7, (.iload_n 1, 8, 0, 0, 0, [], [])), (8, (.invokevirtual 46, 11, 0, 0, 0, [], [])), (11, (.iconst 2, 12, 0, 2, 0, [], [])), (12, (.imul, 13, 0, 0, 0, [], [])), (13, (.ireturn, 14, 0, 0, 0, [], []))]]
noncomputable abbrev zT_7 : zT := (0, zI_7, 1, 2) -- X0_plainBends
noncomputable def zI_8 : List (List (Nat × zE)) := [[(0, (.aload_n 0, 1, 0, 0, 0, [], [])), (1, (.bipush 40, 3, 0, 40, 0, [], [])), (3, (.invokevirtual 32, 6, 0, 0, 0, [], [])), (6, (.aload_n 0, 7, 0, 0, 0, [], [])), (7, (.iload_n 1, 8, 0, 0, 0, [], [])), (8, (.iconst 1, 9, 0, 1, 0, [], [])), (9, (.iadd, 10, 0, 0, 0, [], [])), (10, (.invokevirtual 49, 13, 0, 0, 0, [], [])), (13, (.ireturn, 14, 0, 0, 0, [], []))]]
noncomputable abbrev zT_8 : zT := (0, zI_8, 1, 2) -- X0_proppedShares
noncomputable def zI_9 : List (List (Nat × zE)) := [[(0, (.aload_n 0, 1, 0, 0, 0, [], [])), (1, (.bipush 12, 3, 0, 12, 0, [], [])), (3, (.invokevirtual 32, 6, 0, 0, 0, [], [])), (6, (.aload_n 0, 7, 0, 0, 0, [], [])), (7, (.getfield 22, 10, 0, 0, 0, [], [])), (10, (.aload_n 0, 11, 0, 0, 0, [], [])), (11, (.getfield 19, 14, 0, 0, 0, [], [])), (14, (.if_icmp .ne 10, 17, 24, 0, 0, [], [])), (17, (.aload_n 0, 18, 0, 0, 0, [], [])), (18, (.iconst 1, 19, 0, 1, 0, [], [])), (19, (.putfield 25, 22, 0, 0, 0, [], [])), (22, (.iconst 0, 23, 0, 0, 0, [], [])), (23, (.ireturn, 24, 0, 0, 0, [], [])), (24, (.iload_n 1, 25, 0, 0, 0, [], [])), (25, (.aload_n 0, 26, 0, 0, 0, [], [])), (26, (.getfield 22, 29, 0, 0, 0, [], [])), (29, (.aload_n 0, 30, 0, 0, 0, [], [])), (30, (.getfield 19, 33, 0, 0, 0, [], []))],
  [(33, (.isub, 34, 0, 0, 0, [], [])), (34, (.idiv, 35, 0, 0, 0, [], [])), (35, (.ireturn, 36, 0, 0, 0, [], []))]]
noncomputable abbrev zT_9 : zT := (0, zI_9, 1, 2) -- X0_plainShares
noncomputable def zI_10 : List (List (Nat × zE)) := [[(0, (.aload_n 0, 1, 0, 0, 0, [], [])), (1, (.bipush 13, 3, 0, 13, 0, [], [])), (3, (.invokevirtual 32, 6, 0, 0, 0, [], [])), (6, (.aload_n 0, 7, 0, 0, 0, [], [])), (7, (.iload_n 1, 8, 0, 0, 0, [], [])), (8, (.invokevirtual 58, 11, 0, 0, 0, [], [])), (11, (.aload_n 0, 12, 0, 0, 0, [], [])), (12, (.getfield 22, 15, 0, 0, 0, [], [])), (15, (.ixor, 16, 0, 0, 0, [], [])), (16, (.ireturn, 17, 0, 0, 0, [], []))]]
noncomputable abbrev zT_10 : zT := (0, zI_10, 1, 2) -- X0_plainTells
noncomputable def zI_11 : List (List (Nat × zE)) := [[(0, (.aload_n 0, 1, 0, 0, 0, [], [])), (1, (.aload_n 1, 2, 0, 0, 0, [], [])), (2, (.getfield 34, 5, 0, 0, 0, [], [])), (5, (.putfield 34, 8, 0, 0, 0, [], [])), (8, (.aload_n 1, 9, 0, 0, 0, [], [])), (9, (.getfield 9, 12, 0, 0, 0, [], [])), (12, (.aload_n 0, 13, 0, 0, 0, [], [])), (13, (.getfield 9, 16, 0, 0, 0, [], [])), (16, (.invokestatic 38, 19, 0, 0, 0, [], [])), (19, (.aload_n 1, 20, 0, 0, 0, [], [])), (20, (.getfield 15, 23, 0, 0, 0, [], [])), (23, (.aload_n 0, 24, 0, 0, 0, [], [])), (24, (.getfield 15, 27, 0, 0, 0, [], [])), (27, (.invokestatic 38, 30, 0, 0, 0, [], [])), (30, (.aload_n 1, 31, 0, 0, 0, [], [])), (31, (.getfield 18, 34, 0, 0, 0, [], []))],
  [(34, (.aload_n 0, 35, 0, 0, 0, [], [])), (35, (.getfield 18, 38, 0, 0, 0, [], [])), (38, (.invokestatic 38, 41, 0, 0, 0, [], [])), (41, (.aload_n 1, 42, 0, 0, 0, [], [])), (42, (.getfield 21, 45, 0, 0, 0, [], [])), (45, (.aload_n 0, 46, 0, 0, 0, [], [])), (46, (.getfield 21, 49, 0, 0, 0, [], [])), (49, (.invokestatic 38, 52, 0, 0, 0, [], [])), (52, (.aload_n 1, 53, 0, 0, 0, [], [])), (53, (.getfield 24, 56, 0, 0, 0, [], [])), (56, (.aload_n 0, 57, 0, 0, 0, [], [])), (57, (.getfield 24, 60, 0, 0, 0, [], [])), (60, (.invokestatic 38, 63, 0, 0, 0, [], [])), (63, (.aload_n 0, 64, 0, 0, 0, [], []))],
  [(64, (.aload_n 1, 65, 0, 0, 0, [], [])), (65, (.getfield 42, 68, 0, 0, 0, [], [])), (68, (.putfield 42, 71, 0, 0, 0, [], [])), (71, (.aload_n 0, 72, 0, 0, 0, [], [])), (72, (.aload_n 1, 73, 0, 0, 0, [], [])), (73, (.getfield 45, 76, 0, 0, 0, [], [])), (76, (.putfield 45, 79, 0, 0, 0, [], [])), (79, (.aload_n 0, 80, 0, 0, 0, [], [])), (80, (.aload_n 1, 81, 0, 0, 0, [], [])), (81, (.getfield 48, 84, 0, 0, 0, [], [])), (84, (.putfield 48, 87, 0, 0, 0, [], [])), (87, (.aload_n 0, 88, 0, 0, 0, [], [])), (88, (.getfield 30, 91, 0, 0, 0, [], [])), (91, (.aload_n 1, 92, 0, 0, 0, [], [])), (92, (.getfield 30, 95, 0, 0, 0, [], [])), (95, (.invokevirtual 51, 98, 0, 0, 0, [], []))],
  [(98, (.return_, 99, 0, 0, 0, [], []))]]
noncomputable abbrev zT_11 : zT := (1, zI_11, 0, 2) -- X1_copyFrom
noncomputable def zI_12 : List (List (Nat × zE)) := [[(0, (.aload_n 0, 1, 0, 0, 0, [], [])), (1, (.getfield 34, 4, 0, 0, 0, [], [])), (4, (.istore 5, 6, 0, 0, 0, [], [])), (6, (.aload_n 0, 7, 0, 0, 0, [], [])), (7, (.getfield 9, 10, 0, 0, 0, [], [])), (10, (.iload 5, 12, 0, 0, 0, [], [])), (12, (.iload_n 1, 13, 0, 0, 0, [], [])), (13, (.iastore, 14, 0, 0, 0, [], [])), (14, (.aload_n 0, 15, 0, 0, 0, [], [])), (15, (.getfield 15, 18, 0, 0, 0, [], [])), (18, (.iload 5, 20, 0, 0, 0, [], [])), (20, (.iload_n 2, 21, 0, 0, 0, [], [])), (21, (.iastore, 22, 0, 0, 0, [], [])), (22, (.aload_n 0, 23, 0, 0, 0, [], [])), (23, (.getfield 18, 26, 0, 0, 0, [], [])), (26, (.iload 5, 28, 0, 0, 0, [], [])), (28, (.iload_n 3, 29, 0, 0, 0, [], [])), (29, (.iastore, 30, 0, 0, 0, [], [])), (30, (.aload_n 0, 31, 0, 0, 0, [], [])), (31, (.getfield 21, 34, 0, 0, 0, [], []))],
  [(34, (.iload 5, 36, 0, 0, 0, [], [])), (36, (.iload 4, 38, 0, 0, 0, [], [])), (38, (.iastore, 39, 0, 0, 0, [], [])), (39, (.aload_n 0, 40, 0, 0, 0, [], [])), (40, (.getfield 24, 43, 0, 0, 0, [], [])), (43, (.iload 5, 45, 0, 0, 0, [], [])), (45, (.iconst 1, 46, 0, 1, 0, [], [])), (46, (.iload 5, 48, 0, 0, 0, [], [])), (48, (.ishl, 49, 0, 0, 0, [], [])), (49, (.aload_n 0, 50, 0, 0, 0, [], [])), (50, (.iload_n 2, 51, 0, 0, 0, [], [])), (51, (.invokevirtual 55, 54, 0, 0, 0, [], [])), (54, (.ifCond .eq 12, 57, 66, 0, 0, [], [])), (57, (.aload_n 0, 58, 0, 0, 0, [], [])), (58, (.getfield 24, 61, 0, 0, 0, [], [])), (61, (.iload_n 2, 62, 0, 0, 0, [], [])), (62, (.iaload, 63, 0, 0, 0, [], [])), (63, (.goto 4, 66, 67, 0, 0, [], []))],
  [(66, (.iconst 0, 67, 0, 0, 0, [], [])), (67, (.ior, 68, 0, 0, 0, [], [])), (68, (.iastore, 69, 0, 0, 0, [], [])), (69, (.aload_n 0, 70, 0, 0, 0, [], [])), (70, (.dup, 71, 0, 0, 0, [], [])), (71, (.getfield 34, 74, 0, 0, 0, [], [])), (74, (.iconst 1, 75, 0, 1, 0, [], [])), (75, (.iadd, 76, 0, 0, 0, [], [])), (76, (.putfield 34, 79, 0, 0, 0, [], [])), (79, (.iload 5, 81, 0, 0, 0, [], [])), (81, (.ireturn, 82, 0, 0, 0, [], []))]]
noncomputable abbrev zT_12 : zT := (1, zI_12, 1, 6) -- X1_grow
noncomputable def zI_13 : List (List (Nat × zE)) := [[(0, (.iload_n 1, 1, 0, 0, 0, [], [])), (1, (.ifCond .lt 15, 4, 16, 0, 0, [], [])), (4, (.iload_n 1, 5, 0, 0, 0, [], [])), (5, (.aload_n 0, 6, 0, 0, 0, [], [])), (6, (.getfield 34, 9, 0, 0, 0, [], [])), (9, (.if_icmp .ge 7, 12, 16, 0, 0, [], [])), (12, (.iconst 1, 13, 0, 1, 0, [], [])), (13, (.goto 4, 16, 17, 0, 0, [], [])), (16, (.iconst 0, 17, 0, 0, 0, [], [])), (17, (.ireturn, 18, 0, 0, 0, [], []))]]
noncomputable abbrev zT_13 : zT := (1, zI_13, 3, 2) -- X1_isThere
noncomputable def zI_14 : List (List (Nat × zE)) := [[(0, (.aload_n 0, 1, 0, 0, 0, [], [])), (1, (.iload_n 1, 2, 0, 0, 0, [], [])), (2, (.invokevirtual 55, 5, 0, 0, 0, [], [])), (5, (.ifCond .eq 18, 8, 23, 0, 0, [], [])), (8, (.aload_n 0, 9, 0, 0, 0, [], [])), (9, (.getfield 42, 12, 0, 0, 0, [], [])), (12, (.iload_n 1, 13, 0, 0, 0, [], [])), (13, (.invokestatic 59, 16, 0, 0, 0, [], [])), (16, (.ifCond .ne 7, 19, 23, 0, 0, [], [])), (19, (.iconst 1, 20, 0, 1, 0, [], [])), (20, (.goto 4, 23, 24, 0, 0, [], [])), (23, (.iconst 0, 24, 0, 0, 0, [], [])), (24, (.ireturn, 25, 0, 0, 0, [], []))]]
noncomputable abbrev zT_14 : zT := (1, zI_14, 3, 2) -- X1_isWhole
noncomputable def zI_15 : List (List (Nat × zE)) := [[(0, (.aload_n 0, 1, 0, 0, 0, [], [])), (1, (.iload_n 1, 2, 0, 0, 0, [], [])), (2, (.invokevirtual 55, 5, 0, 0, 0, [], [])), (5, (.ifCond .eq 20, 8, 25, 0, 0, [], [])), (8, (.aload_n 0, 9, 0, 0, 0, [], [])), (9, (.getfield 24, 12, 0, 0, 0, [], [])), (12, (.iload_n 1, 13, 0, 0, 0, [], [])), (13, (.iaload, 14, 0, 0, 0, [], [])), (14, (.iload_n 2, 15, 0, 0, 0, [], [])), (15, (.invokestatic 59, 18, 0, 0, 0, [], [])), (18, (.ifCond .eq 7, 21, 25, 0, 0, [], [])), (21, (.iconst 1, 22, 0, 1, 0, [], [])), (22, (.goto 4, 25, 26, 0, 0, [], [])), (25, (.iconst 0, 26, 0, 0, 0, [], [])), (26, (.ireturn, 27, 0, 0, 0, [], []))]]
noncomputable abbrev zT_15 : zT := (1, zI_15, 3, 3) -- X1_isAbove
noncomputable def zI_16 : List (List (Nat × zE)) := [[(0, (.aload_n 0, 1, 0, 0, 0, [], [])), (1, (.getfield 30, 4, 0, 0, 0, [], [])), (4, (.aload_n 0, 5, 0, 0, 0, [], [])), (5, (.getfield 45, 8, 0, 0, 0, [], [])), (8, (.aload_n 0, 9, 0, 0, 0, [], [])), (9, (.getfield 48, 12, 0, 0, 0, [], [])), (12, (.aload_n 0, 13, 0, 0, 0, [], [])), (13, (.getfield 18, 16, 0, 0, 0, [], [])), (16, (.iload_n 1, 17, 0, 0, 0, [], [])), (17, (.iaload, 18, 0, 0, 0, [], [])), (18, (.aload_n 0, 19, 0, 0, 0, [], [])), (19, (.getfield 21, 22, 0, 0, 0, [], [])), (22, (.iload_n 1, 23, 0, 0, 0, [], [])), (23, (.iaload, 24, 0, 0, 0, [], [])), (24, (.iload_n 1, 25, 0, 0, 0, [], [])), (25, (.invokevirtual 63, 28, 0, 0, 0, [], [])), (28, (.aload_n 0, 29, 0, 0, 0, [], [])), (29, (.getfield 30, 32, 0, 0, 0, [], []))],
  [(32, (.aload_n 0, 33, 0, 0, 0, [], [])), (33, (.getfield 9, 36, 0, 0, 0, [], [])), (36, (.iload_n 1, 37, 0, 0, 0, [], [])), (37, (.iaload, 38, 0, 0, 0, [], [])), (38, (.invokevirtual 67, 41, 0, 0, 0, [], [])), (41, (.istore_n 2, 42, 0, 0, 0, [], [])), (42, (.aload_n 0, 43, 0, 0, 0, [], [])), (43, (.getfield 9, 46, 0, 0, 0, [], [])), (46, (.iload_n 1, 47, 0, 0, 0, [], [])), (47, (.iaload, 48, 0, 0, 0, [], [])), (48, (.tableswitch 66 1 4 #[32, 42, 46, 61], 80, 114, 0, 0, [(1, 80), (2, 90), (3, 94), (4, 109)], []))],
  [(80, (.iload_n 2, 81, 0, 0, 0, [], [])), (81, (.bipush 10, 83, 0, 10, 0, [], [])), (83, (.aload_n 0, 84, 0, 0, 0, [], [])), (84, (.getfield 45, 87, 0, 0, 0, [], [])), (87, (.imul, 88, 0, 0, 0, [], [])), (88, (.iadd, 89, 0, 0, 0, [], [])), (89, (.ireturn, 90, 0, 0, 0, [], [])), (90, (.iload_n 2, 91, 0, 0, 0, [], [])), (91, (.iconst 2, 92, 0, 2, 0, [], [])), (92, (.idiv, 93, 0, 0, 0, [], [])), (93, (.ireturn, 94, 0, 0, 0, [], [])), (94, (.iconst 0, 95, 0, 0, 0, [], [])), (95, (.iload_n 2, 96, 0, 0, 0, [], []))],
  [(96, (.iconst 2, 97, 0, 2, 0, [], [])), (97, (.idiv, 98, 0, 0, 0, [], [])), (98, (.aload_n 0, 99, 0, 0, 0, [], [])), (99, (.getfield 18, 102, 0, 0, 0, [], [])), (102, (.iload_n 1, 103, 0, 0, 0, [], [])), (103, (.iaload, 104, 0, 0, 0, [], [])), (104, (.isub, 105, 0, 0, 0, [], [])), (105, (.invokestatic 71, 108, 0, 0, 0, [], [])), (108, (.ireturn, 109, 0, 0, 0, [], [])), (109, (.iload_n 2, 110, 0, 0, 0, [], [])), (110, (.bipush 50, 112, 0, 50, 0, [], [])), (112, (.iadd, 113, 0, 0, 0, [], [])), (113, (.ireturn, 114, 0, 0, 0, [], [])), (114, (.iconst 2, 115, 0, 2, 0, [], [])), (115, (.iload_n 2, 116, 0, 0, 0, [], [])), (116, (.bipush 50, 118, 0, 50, 0, [], [])), (118, (.iadd, 119, 0, 0, 0, [], [])), (119, (.imul, 120, 0, 0, 0, [], [])), (120, (.ireturn, 121, 0, 0, 0, [], []))]]
noncomputable abbrev zT_16 : zT := (1, zI_16, 1, 3) -- X1_holdsNow
noncomputable def zI_17 : List (List (Nat × zE)) := [[(0, (.aload_n 0, 1, 0, 0, 0, [], [])), (1, (.getfield 9, 4, 0, 0, 0, [], [])), (4, (.iload_n 1, 5, 0, 0, 0, [], [])), (5, (.iload_n 2, 6, 0, 0, 0, [], [])), (6, (.iastore, 7, 0, 0, 0, [], [])), (7, (.aload_n 0, 8, 0, 0, 0, [], [])), (8, (.getfield 15, 11, 0, 0, 0, [], [])), (11, (.iload_n 1, 12, 0, 0, 0, [], [])), (12, (.iload_n 3, 13, 0, 0, 0, [], [])), (13, (.iastore, 14, 0, 0, 0, [], [])), (14, (.iconst 0, 15, 0, 0, 0, [], [])), (15, (.istore 4, 17, 0, 0, 0, [], [])), (17, (.iload 4, 19, 0, 0, 0, [], [true, true, false, false, true])), (19, (.bipush 40, 21, 0, 40, 0, [], [])), (21, (.if_icmp .ge 19, 24, 40, 0, 0, [], [])), (24, (.aload_n 0, 25, 0, 0, 0, [], [])), (25, (.getfield 20, 28, 0, 0, 0, [], [])), (28, (.iload_n 1, 29, 0, 0, 0, [], [])), (29, (.aaload, 30, 0, 0, 0, [], [])), (30, (.iload 4, 32, 0, 0, 0, [], []))],
  [(32, (.lconst 0, 33, 0, 0, 0, [], [])), (33, (.lastore, 34, 0, 0, 0, [], [])), (34, (.iinc 4 1, 37, 0, 1, 0, [], [])), (37, (.goto (-20), 40, 17, 0, 0, [], [])), (40, (.return_, 41, 0, 0, 0, [], []))]]
noncomputable abbrev zT_17 : zT := (2, zI_17, 0, 5) -- X2_lay
noncomputable def zI_18 : List (List (Nat × zE)) := [[(0, (.aload_n 0, 1, 0, 0, 0, [], [])), (1, (.getfield 9, 4, 0, 0, 0, [], [])), (4, (.iload_n 1, 5, 0, 0, 0, [], [])), (5, (.iaload, 6, 0, 0, 0, [], [])), (6, (.iconst (-1), 7, 0, (-1), 0, [], [])), (7, (.if_icmp .ne 6, 10, 13, 0, 0, [], [])), (10, (.bipush (-11), 12, 0, (-11), 0, [], [])), (12, (.ireturn, 13, 0, 0, 0, [], [])), (13, (.aload_n 0, 14, 0, 0, 0, [], [])), (14, (.getfield 9, 17, 0, 0, 0, [], [])), (17, (.iload_n 1, 18, 0, 0, 0, [], [])), (18, (.iaload, 19, 0, 0, 0, [], [])), (19, (.iload_n 2, 20, 0, 0, 0, [], [])), (20, (.if_icmp .ne 7, 23, 27, 0, 0, [], [])), (23, (.iconst 0, 24, 0, 0, 0, [], [])), (24, (.goto 5, 27, 29, 0, 0, [], [])), (27, (.bipush (-13), 29, 0, (-13), 0, [], [])), (29, (.ireturn, 30, 0, 0, 0, [], []))]]
noncomputable abbrev zT_18 : zT := (2, zI_18, 1, 3) -- X2_refusalOf
noncomputable def zI_19 : List (List (Nat × zE)) := [[(0, (.iload_n 2, 1, 0, 0, 0, [], [])), (1, (.ifCond .lt 17, 4, 18, 0, 0, [], [])), (4, (.iload_n 2, 5, 0, 0, 0, [], [])), (5, (.aload_n 0, 6, 0, 0, 0, [], [])), (6, (.getfield 15, 9, 0, 0, 0, [], [])), (9, (.iload_n 1, 10, 0, 0, 0, [], [])), (10, (.iaload, 11, 0, 0, 0, [], [])), (11, (.if_icmp .ge 7, 14, 18, 0, 0, [], [])), (14, (.iconst 1, 15, 0, 1, 0, [], [])), (15, (.goto 4, 18, 19, 0, 0, [], [])), (18, (.iconst 0, 19, 0, 0, 0, [], [])), (19, (.ireturn, 20, 0, 0, 0, [], []))]]
noncomputable abbrev zT_19 : zT := (2, zI_19, 3, 3) -- X2_hasItem
noncomputable def zI_20 : List (List (Nat × zE)) := [[(0, (.aload_n 0, 1, 0, 0, 0, [], [])), (1, (.getfield 23, 4, 0, 0, 0, [], [])), (4, (.iload_n 1, 5, 0, 0, 0, [], [])), (5, (.iconst 1, 6, 0, 1, 0, [], [])), (6, (.iastore, 7, 0, 0, 0, [], [])), (7, (.aload_n 0, 8, 0, 0, 0, [], [])), (8, (.getfield 26, 11, 0, 0, 0, [], [])), (11, (.iload_n 1, 12, 0, 0, 0, [], [])), (12, (.iload_n 2, 13, 0, 0, 0, [], [])), (13, (.iastore, 14, 0, 0, 0, [], [])), (14, (.return_, 15, 0, 0, 0, [], []))]]
noncomputable abbrev zT_20 : zT := (2, zI_20, 0, 3) -- X2_shelveBough
noncomputable def zI_21 : List (List (Nat × zE)) := [[(0, (.aload_n 0, 1, 0, 0, 0, [], [])), (1, (.getfield 23, 4, 0, 0, 0, [], [])), (4, (.iload_n 1, 5, 0, 0, 0, [], [])), (5, (.aload_n 0, 6, 0, 0, 0, [], [])), (6, (.getfield 9, 9, 0, 0, 0, [], [])), (9, (.iload_n 2, 10, 0, 0, 0, [], [])), (10, (.iaload, 11, 0, 0, 0, [], [])), (11, (.iconst (-1), 12, 0, (-1), 0, [], [])), (12, (.if_icmp .ne 7, 15, 19, 0, 0, [], [])), (15, (.iconst 0, 16, 0, 0, 0, [], [])), (16, (.goto 4, 19, 20, 0, 0, [], [])), (19, (.iconst 2, 20, 0, 2, 0, [], [])), (20, (.iastore, 21, 0, 0, 0, [], [true, true, true])), (21, (.aload_n 0, 22, 0, 0, 0, [], [])), (22, (.getfield 26, 25, 0, 0, 0, [], [])), (25, (.iload_n 1, 26, 0, 0, 0, [], [])), (26, (.aload_n 0, 27, 0, 0, 0, [], [])), (27, (.getfield 15, 30, 0, 0, 0, [], [])), (30, (.iload_n 2, 31, 0, 0, 0, [], [])), (31, (.iaload, 32, 0, 0, 0, [], []))],
  [(32, (.iastore, 33, 0, 0, 0, [], [])), (33, (.aload_n 0, 34, 0, 0, 0, [], [])), (34, (.getfield 29, 37, 0, 0, 0, [], [])), (37, (.iload_n 1, 38, 0, 0, 0, [], [])), (38, (.aload_n 0, 39, 0, 0, 0, [], [])), (39, (.getfield 9, 42, 0, 0, 0, [], [])), (42, (.iload_n 2, 43, 0, 0, 0, [], [])), (43, (.iaload, 44, 0, 0, 0, [], [])), (44, (.iastore, 45, 0, 0, 0, [], [])), (45, (.return_, 46, 0, 0, 0, [], []))]]
noncomputable abbrev zT_21 : zT := (2, zI_21, 0, 3) -- X2_shelveRow
noncomputable def zI_22 : List (List (Nat × zE)) := [[(0, (.aload_n 0, 1, 0, 0, 0, [], [])), (1, (.getfield 23, 4, 0, 0, 0, [], [])), (4, (.iload_n 1, 5, 0, 0, 0, [], [])), (5, (.iconst 0, 6, 0, 0, 0, [], [])), (6, (.iastore, 7, 0, 0, 0, [], [])), (7, (.return_, 8, 0, 0, 0, [], []))]]
noncomputable abbrev zT_22 : zT := (2, zI_22, 0, 2) -- X2_clear
noncomputable def zI_23 : List (List (Nat × zE)) := [[(0, (.aload_n 0, 1, 0, 0, 0, [], [])), (1, (.getfield 23, 4, 0, 0, 0, [], [])), (4, (.iload_n 1, 5, 0, 0, 0, [], [])), (5, (.iaload, 6, 0, 0, 0, [], [])), (6, (.iconst 1, 7, 0, 1, 0, [], [])), (7, (.if_icmp .ne 7, 10, 14, 0, 0, [], [])), (10, (.iconst 1, 11, 0, 1, 0, [], [])), (11, (.goto 4, 14, 15, 0, 0, [], [])), (14, (.iconst 0, 15, 0, 0, 0, [], [])), (15, (.ireturn, 16, 0, 0, 0, [], []))]]
noncomputable abbrev zT_23 : zT := (2, zI_23, 3, 2) -- X2_isBough
noncomputable def zI_24 : List (List (Nat × zE)) := [[(0, (.aload_n 0, 1, 0, 0, 0, [], [])), (1, (.getfield 23, 4, 0, 0, 0, [], [])), (4, (.iload_n 1, 5, 0, 0, 0, [], [])), (5, (.iaload, 6, 0, 0, 0, [], [])), (6, (.iconst 2, 7, 0, 2, 0, [], [])), (7, (.if_icmp .ne 7, 10, 14, 0, 0, [], [])), (10, (.iconst 1, 11, 0, 1, 0, [], [])), (11, (.goto 4, 14, 15, 0, 0, [], [])), (14, (.iconst 0, 15, 0, 0, 0, [], [])), (15, (.ireturn, 16, 0, 0, 0, [], []))]]
noncomputable abbrev zT_24 : zT := (2, zI_24, 3, 2) -- X2_isRow
noncomputable def zI_25 : List (List (Nat × zE)) := [[(0, (.aload_n 0, 1, 0, 0, 0, [], [])), (1, (.getfield 12, 4, 0, 0, 0, [], [])), (4, (.aload_n 1, 5, 0, 0, 0, [], [])), (5, (.getfield 12, 8, 0, 0, 0, [], [])), (8, (.invokevirtual 40, 11, 0, 0, 0, [], [])), (11, (.aload_n 0, 12, 0, 0, 0, [], [])), (12, (.getfield 21, 15, 0, 0, 0, [], [])), (15, (.aload_n 1, 16, 0, 0, 0, [], [])), (16, (.getfield 21, 19, 0, 0, 0, [], [])), (19, (.invokevirtual 44, 22, 0, 0, 0, [], [])), (22, (.aload_n 0, 23, 0, 0, 0, [], [])), (23, (.getfield 28, 26, 0, 0, 0, [], [])), (26, (.aload_n 1, 27, 0, 0, 0, [], [])), (27, (.getfield 28, 30, 0, 0, 0, [], [])), (30, (.invokevirtual 47, 33, 0, 0, 0, [], []))],
  [(33, (.aload_n 0, 34, 0, 0, 0, [], [])), (34, (.aload_n 1, 35, 0, 0, 0, [], [])), (35, (.getfield 32, 38, 0, 0, 0, [], [])), (38, (.putfield 32, 41, 0, 0, 0, [], [])), (41, (.return_, 42, 0, 0, 0, [], []))]]
noncomputable abbrev zT_25 : zT := (3, zI_25, 0, 2) -- X3_copyFrom
noncomputable def zI_26 : List (List (Nat × zE)) := [[(0, (.aload_n 0, 1, 0, 0, 0, [], [])), (1, (.getfield 12, 4, 0, 0, 0, [], [])), (4, (.getfield 50, 7, 0, 0, 0, [], [])), (7, (.aload_n 0, 8, 0, 0, 0, [], [])), (8, (.getfield 12, 11, 0, 0, 0, [], [])), (11, (.getfield 53, 14, 0, 0, 0, [], [])), (14, (.iload_n 1, 15, 0, 0, 0, [], [])), (15, (.iaload, 16, 0, 0, 0, [], [])), (16, (.imul, 17, 0, 0, 0, [], [])), (17, (.istore_n 2, 18, 0, 0, 0, [], [])), (18, (.iconst 0, 19, 0, 0, 0, [], [])), (19, (.istore_n 3, 20, 0, 0, 0, [], [])), (20, (.iload_n 3, 21, 0, 0, 0, [], [true, true, true, true])), (21, (.aload_n 0, 22, 0, 0, 0, [], [])), (22, (.getfield 21, 25, 0, 0, 0, [], [])), (25, (.getfield 56, 28, 0, 0, 0, [], [])), (28, (.if_icmp .ge 41, 31, 69, 0, 0, [], [])), (31, (.aload_n 0, 32, 0, 0, 0, [], []))],
  [(32, (.getfield 12, 35, 0, 0, 0, [], [])), (35, (.aload_n 0, 36, 0, 0, 0, [], [])), (36, (.getfield 21, 39, 0, 0, 0, [], [])), (39, (.getfield 59, 42, 0, 0, 0, [], [])), (42, (.iload_n 3, 43, 0, 0, 0, [], [])), (43, (.iaload, 44, 0, 0, 0, [], [])), (44, (.iload_n 1, 45, 0, 0, 0, [], [])), (45, (.invokevirtual 62, 48, 0, 0, 0, [], [])), (48, (.ifCond .eq 15, 51, 63, 0, 0, [], [])), (51, (.iload_n 2, 52, 0, 0, 0, [], [])), (52, (.aload_n 0, 53, 0, 0, 0, [], [])), (53, (.getfield 21, 56, 0, 0, 0, [], [])), (56, (.getfield 66, 59, 0, 0, 0, [], [])), (59, (.iload_n 3, 60, 0, 0, 0, [], [])), (60, (.iaload, 61, 0, 0, 0, [], [])), (61, (.iadd, 62, 0, 0, 0, [], [])), (62, (.istore_n 2, 63, 0, 0, 0, [], [])), (63, (.iinc 3 1, 66, 0, 1, 0, [], []))],
  [(66, (.goto (-46), 69, 20, 0, 0, [], [])), (69, (.iload_n 2, 70, 0, 0, 0, [], [])), (70, (.ireturn, 71, 0, 0, 0, [], []))]]
noncomputable abbrev zT_26 : zT := (3, zI_26, 1, 4) -- X3_bears
noncomputable def zI_27 : List (List (Nat × zE)) := [[(0, (.iconst 0, 1, 0, 0, 0, [], [])), (1, (.istore_n 1, 2, 0, 0, 0, [], [])), (2, (.iload_n 1, 3, 0, 0, 0, [], [true, true])), (3, (.aload_n 0, 4, 0, 0, 0, [], [])), (4, (.getfield 12, 7, 0, 0, 0, [], [])), (7, (.getfield 69, 10, 0, 0, 0, [], [])), (10, (.if_icmp .ge 29, 13, 39, 0, 0, [], [])), (13, (.aload_n 0, 14, 0, 0, 0, [], [])), (14, (.getfield 36, 17, 0, 0, 0, [], [])), (17, (.iload_n 1, 18, 0, 0, 0, [], [])), (18, (.aload_n 0, 19, 0, 0, 0, [], [])), (19, (.getfield 12, 22, 0, 0, 0, [], [])), (22, (.iload_n 1, 23, 0, 0, 0, [], [])), (23, (.invokevirtual 70, 26, 0, 0, 0, [], [])), (26, (.aload_n 0, 27, 0, 0, 0, [], [])), (27, (.iload_n 1, 28, 0, 0, 0, [], [])), (28, (.invokevirtual 74, 31, 0, 0, 0, [], [])), (31, (.isub, 32, 0, 0, 0, [], []))],
  [(32, (.iastore, 33, 0, 0, 0, [], [])), (33, (.iinc 1 1, 36, 0, 1, 0, [], [])), (36, (.goto (-34), 39, 2, 0, 0, [], [])), (39, (.return_, 40, 0, 0, 0, [], []))]]
noncomputable abbrev zT_27 : zT := (3, zI_27, 0, 2) -- X3_measure
noncomputable def zI_28 : List (List (Nat × zE)) := [[(0, (.iconst 0, 1, 0, 0, 0, [], [])), (1, (.istore_n 3, 2, 0, 0, 0, [], [])), (2, (.iload_n 3, 3, 0, 0, 0, [], [true, true, true, true])), (3, (.aload_n 0, 4, 0, 0, 0, [], [])), (4, (.getfield 12, 7, 0, 0, 0, [], [])), (7, (.getfield 69, 10, 0, 0, 0, [], [])), (10, (.if_icmp .ge 31, 13, 41, 0, 0, [], [])), (13, (.aload_n 0, 14, 0, 0, 0, [], [])), (14, (.getfield 12, 17, 0, 0, 0, [], [])), (17, (.iload_n 1, 18, 0, 0, 0, [], [])), (18, (.iload_n 3, 19, 0, 0, 0, [], [])), (19, (.invokevirtual 62, 22, 0, 0, 0, [], [])), (22, (.ifCond .eq 13, 25, 35, 0, 0, [], [])), (25, (.aload_n 0, 26, 0, 0, 0, [], [])), (26, (.getfield 36, 29, 0, 0, 0, [], [])), (29, (.iload_n 3, 30, 0, 0, 0, [], [])), (30, (.dup2, 31, 0, 0, 0, [], [])), (31, (.iaload, 32, 0, 0, 0, [], []))],
  [(32, (.iload_n 2, 33, 0, 0, 0, [], [])), (33, (.isub, 34, 0, 0, 0, [], [])), (34, (.iastore, 35, 0, 0, 0, [], [])), (35, (.iinc 3 1, 38, 0, 1, 0, [], [])), (38, (.goto (-36), 41, 2, 0, 0, [], [])), (41, (.return_, 42, 0, 0, 0, [], []))]]
noncomputable abbrev zT_28 : zT := (3, zI_28, 0, 4) -- X3_load
noncomputable def zI_29 : List (List (Nat × zE)) := [[(0, (.iconst 0, 1, 0, 0, 0, [], [])), (1, (.istore_n 1, 2, 0, 0, 0, [], [])), (2, (.iconst 0, 3, 0, 0, 0, [], [])), (3, (.istore_n 2, 4, 0, 0, 0, [], [])), (4, (.iload_n 2, 5, 0, 0, 0, [], [true, true, true])), (5, (.aload_n 0, 6, 0, 0, 0, [], [])), (6, (.getfield 12, 9, 0, 0, 0, [], [])), (9, (.getfield 69, 12, 0, 0, 0, [], [])), (12, (.if_icmp .ge 35, 15, 47, 0, 0, [], [])), (15, (.aload_n 0, 16, 0, 0, 0, [], [])), (16, (.getfield 36, 19, 0, 0, 0, [], [])), (19, (.iload_n 2, 20, 0, 0, 0, [], [])), (20, (.iaload, 21, 0, 0, 0, [], [])), (21, (.ifCond .ge 20, 24, 41, 0, 0, [], [])), (24, (.aload_n 0, 25, 0, 0, 0, [], [])), (25, (.getfield 12, 28, 0, 0, 0, [], [])), (28, (.iload_n 2, 29, 0, 0, 0, [], [])), (29, (.invokevirtual 77, 32, 0, 0, 0, [], []))],
  [(32, (.ifCond .eq 9, 35, 41, 0, 0, [], [])), (35, (.iload_n 1, 36, 0, 0, 0, [], [])), (36, (.iconst 1, 37, 0, 1, 0, [], [])), (37, (.iload_n 2, 38, 0, 0, 0, [], [])), (38, (.ishl, 39, 0, 0, 0, [], [])), (39, (.ior, 40, 0, 0, 0, [], [])), (40, (.istore_n 1, 41, 0, 0, 0, [], [])), (41, (.iinc 2 1, 44, 0, 1, 0, [], [])), (44, (.goto (-40), 47, 4, 0, 0, [], [])), (47, (.iload_n 1, 48, 0, 0, 0, [], [])), (48, (.ireturn, 49, 0, 0, 0, [], []))]]
noncomputable abbrev zT_29 : zT := (3, zI_29, 1, 3) -- X3_cracking
noncomputable def zI_30 : List (List (Nat × zE)) := [[(0, (.aload_n 0, 1, 0, 0, 0, [], [])), (1, (.getfield 12, 4, 0, 0, 0, [], [])), (4, (.iload_n 1, 5, 0, 0, 0, [], [])), (5, (.invokevirtual 77, 8, 0, 0, 0, [], [])), (8, (.ifCond .ne 5, 11, 13, 0, 0, [], [])), (11, (.iconst 2, 12, 0, 2, 0, [], [])), (12, (.ireturn, 13, 0, 0, 0, [], [])), (13, (.aload_n 0, 14, 0, 0, 0, [], [])), (14, (.iload_n 1, 15, 0, 0, 0, [], [])), (15, (.invokevirtual 74, 18, 0, 0, 0, [], [])), (18, (.aload_n 0, 19, 0, 0, 0, [], [])), (19, (.getfield 12, 22, 0, 0, 0, [], [])), (22, (.iload_n 1, 23, 0, 0, 0, [], [])), (23, (.invokevirtual 70, 26, 0, 0, 0, [], [])), (26, (.if_icmp .le 7, 29, 33, 0, 0, [], [])), (29, (.iconst 1, 30, 0, 1, 0, [], [])), (30, (.goto 4, 33, 34, 0, 0, [], []))],
  [(33, (.iconst 0, 34, 0, 0, 0, [], [])), (34, (.ireturn, 35, 0, 0, 0, [], []))]]
noncomputable abbrev zT_30 : zT := (3, zI_30, 1, 2) -- X3_stateOf
noncomputable def zI_31 : List (List (Nat × zE)) := [[(0, (.bipush (-9), 2, 0, (-9), 0, [], [])), (2, (.istore_n 1, 3, 0, 0, 0, [], [])), (3, (.iconst 0, 4, 0, 0, 0, [], [])), (4, (.istore_n 2, 5, 0, 0, 0, [], [])), (5, (.iload_n 2, 6, 0, 0, 0, [], [true, true, true])), (6, (.aload_n 0, 7, 0, 0, 0, [], [])), (7, (.getfield 12, 10, 0, 0, 0, [], [])), (10, (.getfield 69, 13, 0, 0, 0, [], [])), (13, (.if_icmp .ge 43, 16, 56, 0, 0, [], [])), (16, (.aload_n 0, 17, 0, 0, 0, [], [])), (17, (.getfield 12, 20, 0, 0, 0, [], [])), (20, (.iload_n 2, 21, 0, 0, 0, [], [])), (21, (.invokevirtual 77, 24, 0, 0, 0, [], [])), (24, (.ifCond .eq 26, 27, 50, 0, 0, [], [])), (27, (.iload_n 1, 28, 0, 0, 0, [], [])), (28, (.bipush (-9), 30, 0, (-9), 0, [], [])), (30, (.if_icmp .eq 18, 33, 48, 0, 0, [], []))],
  [(33, (.aload_n 0, 34, 0, 0, 0, [], [])), (34, (.getfield 36, 37, 0, 0, 0, [], [])), (37, (.iload_n 2, 38, 0, 0, 0, [], [])), (38, (.iaload, 39, 0, 0, 0, [], [])), (39, (.aload_n 0, 40, 0, 0, 0, [], [])), (40, (.getfield 36, 43, 0, 0, 0, [], [])), (43, (.iload_n 1, 44, 0, 0, 0, [], [])), (44, (.iaload, 45, 0, 0, 0, [], [])), (45, (.if_icmp .ge 5, 48, 50, 0, 0, [], [])), (48, (.iload_n 2, 49, 0, 0, 0, [], [])), (49, (.istore_n 1, 50, 0, 0, 0, [], [])), (50, (.iinc 2 1, 53, 0, 1, 0, [], [])), (53, (.goto (-48), 56, 5, 0, 0, [], [])), (56, (.iload_n 1, 57, 0, 0, 0, [], [])), (57, (.ireturn, 58, 0, 0, 0, [], []))]]
noncomputable abbrev zT_31 : zT := (3, zI_31, 1, 3) -- X3_leastSpare
noncomputable def zI_32 : List (List (Nat × zE)) := [[(0, (.aload_n 0, 1, 0, 0, 0, [], [])), (1, (.getfield 36, 4, 0, 0, 0, [], [])), (4, (.iload_n 1, 5, 0, 0, 0, [], [])), (5, (.iaload, 6, 0, 0, 0, [], [])), (6, (.istore_n 2, 7, 0, 0, 0, [], [])), (7, (.iconst 0, 8, 0, 0, 0, [], [])), (8, (.istore_n 3, 9, 0, 0, 0, [], [])), (9, (.iload_n 3, 10, 0, 0, 0, [], [true, true, true, true])), (10, (.aload_n 0, 11, 0, 0, 0, [], [])), (11, (.getfield 12, 14, 0, 0, 0, [], [])), (14, (.getfield 69, 17, 0, 0, 0, [], [])), (17, (.if_icmp .ge 32, 20, 49, 0, 0, [], [])), (20, (.aload_n 0, 21, 0, 0, 0, [], [])), (21, (.getfield 12, 24, 0, 0, 0, [], [])), (24, (.iload_n 1, 25, 0, 0, 0, [], [])), (25, (.iload_n 3, 26, 0, 0, 0, [], [])), (26, (.invokevirtual 62, 29, 0, 0, 0, [], [])), (29, (.ifCond .eq 14, 32, 43, 0, 0, [], []))],
  [(32, (.iload_n 2, 33, 0, 0, 0, [], [])), (33, (.aload_n 0, 34, 0, 0, 0, [], [])), (34, (.getfield 36, 37, 0, 0, 0, [], [])), (37, (.iload_n 3, 38, 0, 0, 0, [], [])), (38, (.iaload, 39, 0, 0, 0, [], [])), (39, (.invokestatic 81, 42, 0, 0, 0, [], [])), (42, (.istore_n 2, 43, 0, 0, 0, [], [])), (43, (.iinc 3 1, 46, 0, 1, 0, [], [])), (46, (.goto (-37), 49, 9, 0, 0, [], [])), (49, (.iconst 0, 50, 0, 0, 0, [], [])), (50, (.iload_n 2, 51, 0, 0, 0, [], [])), (51, (.invokestatic 87, 54, 0, 0, 0, [], [])), (54, (.ireturn, 55, 0, 0, 0, [], []))]]
noncomputable abbrev zT_32 : zT := (3, zI_32, 1, 4) -- X3_roomOn
noncomputable def zI_33 : List (List (Nat × zE)) := [[(0, (.aload_n 0, 1, 0, 0, 0, [], [])), (1, (.invokevirtual 90, 4, 0, 0, 0, [], [])), (4, (.iconst 0, 5, 0, 0, 0, [], [])), (5, (.istore_n 1, 6, 0, 0, 0, [], [])), (6, (.iconst 0, 7, 0, 0, 0, [], [])), (7, (.istore_n 2, 8, 0, 0, 0, [], [])), (8, (.iload_n 2, 9, 0, 0, 0, [], [true, true, true, false])), (9, (.bipush 9, 11, 0, 9, 0, [], [])), (11, (.if_icmp .ge 39, 14, 50, 0, 0, [], [])), (14, (.aload_n 0, 15, 0, 0, 0, [], [])), (15, (.invokevirtual 93, 18, 0, 0, 0, [], [])), (18, (.istore_n 3, 19, 0, 0, 0, [], [])), (19, (.iload_n 3, 20, 0, 0, 0, [], [])), (20, (.bipush (-9), 22, 0, (-9), 0, [], [])), (22, (.if_icmp .eq 12, 25, 34, 0, 0, [], [])), (25, (.aload_n 0, 26, 0, 0, 0, [], [])), (26, (.getfield 36, 29, 0, 0, 0, [], [])), (29, (.iload_n 3, 30, 0, 0, 0, [], [])), (30, (.iaload, 31, 0, 0, 0, [], [])), (31, (.ifCond .lt 5, 34, 36, 0, 0, [], []))],
  [(34, (.iload_n 1, 35, 0, 0, 0, [], [])), (35, (.ireturn, 36, 0, 0, 0, [], [])), (36, (.iload_n 1, 37, 0, 0, 0, [], [])), (37, (.aload_n 0, 38, 0, 0, 0, [], [])), (38, (.iload_n 3, 39, 0, 0, 0, [], [])), (39, (.invokevirtual 97, 42, 0, 0, 0, [], [])), (42, (.iadd, 43, 0, 0, 0, [], [])), (43, (.istore_n 1, 44, 0, 0, 0, [], [])), (44, (.iinc 2 1, 47, 0, 1, 0, [], [])), (47, (.goto (-39), 50, 8, 0, 0, [], [])), (50, (.iload_n 1, 51, 0, 0, 0, [], [])), (51, (.ireturn, 52, 0, 0, 0, [], []))]]
noncomputable abbrev zT_33 : zT := (3, zI_33, 1, 4) -- X3_breakDown
noncomputable def zI_34 : List (List (Nat × zE)) := [[(0, (.iconst 0, 1, 0, 0, 0, [], [])), (1, (.istore_n 2, 2, 0, 0, 0, [], [])), (2, (.iload_n 2, 3, 0, 0, 0, [], [true, true, true, false, false])), (3, (.aload_n 0, 4, 0, 0, 0, [], [])), (4, (.getfield 12, 7, 0, 0, 0, [], [])), (7, (.getfield 69, 10, 0, 0, 0, [], [])), (10, (.if_icmp .ge 36, 13, 46, 0, 0, [], [])), (13, (.aload_n 0, 14, 0, 0, 0, [], [])), (14, (.getfield 12, 17, 0, 0, 0, [], [])), (17, (.iload_n 2, 18, 0, 0, 0, [], [])), (18, (.iload_n 1, 19, 0, 0, 0, [], [])), (19, (.invokevirtual 62, 22, 0, 0, 0, [], [])), (22, (.ifCond .eq 18, 25, 40, 0, 0, [], [])), (25, (.aload_n 0, 26, 0, 0, 0, [], [])), (26, (.getfield 12, 29, 0, 0, 0, [], [])), (29, (.dup, 30, 0, 0, 0, [], [])), (30, (.getfield 100, 33, 0, 0, 0, [], []))],
  [(33, (.iconst 1, 34, 0, 1, 0, [], [])), (34, (.iload_n 2, 35, 0, 0, 0, [], [])), (35, (.ishl, 36, 0, 0, 0, [], [])), (36, (.ior, 37, 0, 0, 0, [], [])), (37, (.putfield 100, 40, 0, 0, 0, [], [])), (40, (.iinc 2 1, 43, 0, 1, 0, [], [])), (43, (.goto (-41), 46, 2, 0, 0, [], [])), (46, (.iconst 0, 47, 0, 0, 0, [], [])), (47, (.istore_n 2, 48, 0, 0, 0, [], [])), (48, (.iconst 0, 49, 0, 0, 0, [], [])), (49, (.istore_n 3, 50, 0, 0, 0, [], [])), (50, (.iload_n 3, 51, 0, 0, 0, [], [true, true, true, true, false])), (51, (.aload_n 0, 52, 0, 0, 0, [], [])), (52, (.getfield 21, 55, 0, 0, 0, [], [])), (55, (.getfield 56, 58, 0, 0, 0, [], [])), (58, (.if_icmp .ge 66, 61, 124, 0, 0, [], [])), (61, (.aload_n 0, 62, 0, 0, 0, [], [])), (62, (.getfield 21, 65, 0, 0, 0, [], []))],
  [(65, (.getfield 59, 68, 0, 0, 0, [], [])), (68, (.iload_n 3, 69, 0, 0, 0, [], [])), (69, (.iaload, 70, 0, 0, 0, [], [])), (70, (.istore 4, 72, 0, 0, 0, [], [])), (72, (.aload_n 0, 73, 0, 0, 0, [], [])), (73, (.getfield 12, 76, 0, 0, 0, [], [])), (76, (.iload 4, 78, 0, 0, 0, [], [])), (78, (.iload_n 1, 79, 0, 0, 0, [], [])), (79, (.invokevirtual 62, 82, 0, 0, 0, [], [])), (82, (.ifCond .ne 6, 85, 88, 0, 0, [], [])), (85, (.goto 33, 88, 118, 0, 0, [], [])), (88, (.aload_n 0, 89, 0, 0, 0, [], [])), (89, (.iload 4, 91, 0, 0, 0, [], [])), (91, (.aload_n 0, 92, 0, 0, 0, [], [])), (92, (.getfield 21, 95, 0, 0, 0, [], [])), (95, (.getfield 66, 98, 0, 0, 0, [], []))],
  [(98, (.iload_n 3, 99, 0, 0, 0, [], [])), (99, (.iaload, 100, 0, 0, 0, [], [])), (100, (.ineg, 101, 0, 0, 0, [], [])), (101, (.invokevirtual 103, 104, 0, 0, 0, [], [])), (104, (.aload_n 0, 105, 0, 0, 0, [], [])), (105, (.getfield 21, 108, 0, 0, 0, [], [])), (108, (.getfield 59, 111, 0, 0, 0, [], [])), (111, (.iload_n 3, 112, 0, 0, 0, [], [])), (112, (.bipush (-9), 114, 0, (-9), 0, [], [])), (114, (.iastore, 115, 0, 0, 0, [], [])), (115, (.iinc 2 1, 118, 0, 1, 0, [], [])), (118, (.iinc 3 1, 121, 0, 1, 0, [], [])), (121, (.goto (-71), 124, 50, 0, 0, [], [])), (124, (.iload_n 2, 125, 0, 0, 0, [], [])), (125, (.ireturn, 126, 0, 0, 0, [], []))]]
noncomputable abbrev zT_34 : zT := (3, zI_34, 1, 5) -- X3_breakOff
noncomputable def zI_35 : List (List (Nat × zE)) := [[(0, (.aload_n 0, 1, 0, 0, 0, [], [])), (1, (.aload_n 1, 2, 0, 0, 0, [], [])), (2, (.getfield 21, 5, 0, 0, 0, [], [])), (5, (.putfield 21, 8, 0, 0, 0, [], [])), (8, (.aload_n 1, 9, 0, 0, 0, [], [])), (9, (.getfield 9, 12, 0, 0, 0, [], [])), (12, (.aload_n 0, 13, 0, 0, 0, [], [])), (13, (.getfield 9, 16, 0, 0, 0, [], [])), (16, (.invokestatic 25, 19, 0, 0, 0, [], [])), (19, (.aload_n 1, 20, 0, 0, 0, [], [])), (20, (.getfield 15, 23, 0, 0, 0, [], [])), (23, (.aload_n 0, 24, 0, 0, 0, [], [])), (24, (.getfield 15, 27, 0, 0, 0, [], [])), (27, (.invokestatic 25, 30, 0, 0, 0, [], [])), (30, (.aload_n 1, 31, 0, 0, 0, [], [])), (31, (.getfield 18, 34, 0, 0, 0, [], []))],
  [(34, (.aload_n 0, 35, 0, 0, 0, [], [])), (35, (.getfield 18, 38, 0, 0, 0, [], [])), (38, (.invokestatic 25, 41, 0, 0, 0, [], [])), (41, (.return_, 42, 0, 0, 0, [], []))]]
noncomputable abbrev zT_35 : zT := (4, zI_35, 0, 2) -- X4_copyFrom
noncomputable def zI_36 : List (List (Nat × zE)) := [[(0, (.aload_n 0, 1, 0, 0, 0, [], [])), (1, (.getfield 21, 4, 0, 0, 0, [], [])), (4, (.istore_n 3, 5, 0, 0, 0, [], [])), (5, (.aload_n 0, 6, 0, 0, 0, [], [])), (6, (.getfield 9, 9, 0, 0, 0, [], [])), (9, (.iload_n 3, 10, 0, 0, 0, [], [])), (10, (.iload_n 1, 11, 0, 0, 0, [], [])), (11, (.iastore, 12, 0, 0, 0, [], [])), (12, (.aload_n 0, 13, 0, 0, 0, [], [])), (13, (.getfield 15, 16, 0, 0, 0, [], [])), (16, (.iload_n 3, 17, 0, 0, 0, [], [])), (17, (.iload_n 2, 18, 0, 0, 0, [], [])), (18, (.iastore, 19, 0, 0, 0, [], [])), (19, (.aload_n 0, 20, 0, 0, 0, [], [])), (20, (.getfield 18, 23, 0, 0, 0, [], [])), (23, (.iload_n 3, 24, 0, 0, 0, [], [])), (24, (.bipush (-9), 26, 0, (-9), 0, [], [])), (26, (.iastore, 27, 0, 0, 0, [], [])), (27, (.aload_n 0, 28, 0, 0, 0, [], [])), (28, (.dup, 29, 0, 0, 0, [], [])), (29, (.getfield 21, 32, 0, 0, 0, [], []))],
  [(32, (.iconst 1, 33, 0, 1, 0, [], [])), (33, (.iadd, 34, 0, 0, 0, [], [])), (34, (.putfield 21, 37, 0, 0, 0, [], [])), (37, (.iload_n 3, 38, 0, 0, 0, [], [])), (38, (.ireturn, 39, 0, 0, 0, [], []))]]
noncomputable abbrev zT_36 : zT := (4, zI_36, 1, 4) -- X4_join
noncomputable def zI_37 : List (List (Nat × zE)) := [[(0, (.iload_n 1, 1, 0, 0, 0, [], [])), (1, (.ifCond .lt 15, 4, 16, 0, 0, [], [])), (4, (.iload_n 1, 5, 0, 0, 0, [], [])), (5, (.aload_n 0, 6, 0, 0, 0, [], [])), (6, (.getfield 21, 9, 0, 0, 0, [], [])), (9, (.if_icmp .ge 7, 12, 16, 0, 0, [], [])), (12, (.iconst 1, 13, 0, 1, 0, [], [])), (13, (.goto 4, 16, 17, 0, 0, [], [])), (16, (.iconst 0, 17, 0, 0, 0, [], [])), (17, (.ireturn, 18, 0, 0, 0, [], []))]]
noncomputable abbrev zT_37 : zT := (4, zI_37, 3, 2) -- X4_isThere
noncomputable def zI_38 : List (List (Nat × zE)) := [[(0, (.iconst 0, 1, 0, 0, 0, [], [])), (1, (.istore_n 2, 2, 0, 0, 0, [], [])), (2, (.iconst 0, 3, 0, 0, 0, [], [])), (3, (.istore_n 3, 4, 0, 0, 0, [], [])), (4, (.iload_n 3, 5, 0, 0, 0, [], [true, true, true, true])), (5, (.aload_n 0, 6, 0, 0, 0, [], [])), (6, (.getfield 21, 9, 0, 0, 0, [], [])), (9, (.if_icmp .ge 39, 12, 48, 0, 0, [], [])), (12, (.aload_n 0, 13, 0, 0, 0, [], [])), (13, (.getfield 15, 16, 0, 0, 0, [], [])), (16, (.iload_n 3, 17, 0, 0, 0, [], [])), (17, (.iaload, 18, 0, 0, 0, [], [])), (18, (.iload_n 1, 19, 0, 0, 0, [], [])), (19, (.if_icmp .ne 23, 22, 42, 0, 0, [], [])), (22, (.aload_n 0, 23, 0, 0, 0, [], [])), (23, (.getfield 18, 26, 0, 0, 0, [], [])), (26, (.iload_n 3, 27, 0, 0, 0, [], [])), (27, (.iaload, 28, 0, 0, 0, [], [])), (28, (.bipush (-9), 30, 0, (-9), 0, [], [])), (30, (.if_icmp .eq 12, 33, 42, 0, 0, [], []))],
  [(33, (.iload_n 2, 34, 0, 0, 0, [], [])), (34, (.aload_n 0, 35, 0, 0, 0, [], [])), (35, (.getfield 9, 38, 0, 0, 0, [], [])), (38, (.iload_n 3, 39, 0, 0, 0, [], [])), (39, (.iaload, 40, 0, 0, 0, [], [])), (40, (.iadd, 41, 0, 0, 0, [], [])), (41, (.istore_n 2, 42, 0, 0, 0, [], [])), (42, (.iinc 3 1, 45, 0, 1, 0, [], [])), (45, (.goto (-41), 48, 4, 0, 0, [], [])), (48, (.iload_n 2, 49, 0, 0, 0, [], [])), (49, (.ireturn, 50, 0, 0, 0, [], []))]]
noncomputable abbrev zT_38 : zT := (4, zI_38, 1, 4) -- X4_seatedWeight
noncomputable def zI_39 : List (List (Nat × zE)) := [[(0, (.iconst 0, 1, 0, 0, 0, [], [])), (1, (.istore_n 2, 2, 0, 0, 0, [], [])), (2, (.iload_n 2, 3, 0, 0, 0, [], [true, true, true])), (3, (.aload_n 0, 4, 0, 0, 0, [], [])), (4, (.getfield 21, 7, 0, 0, 0, [], [])), (7, (.if_icmp .ge 32, 10, 39, 0, 0, [], [])), (10, (.aload_n 0, 11, 0, 0, 0, [], [])), (11, (.getfield 15, 14, 0, 0, 0, [], [])), (14, (.iload_n 2, 15, 0, 0, 0, [], [])), (15, (.iaload, 16, 0, 0, 0, [], [])), (16, (.iload_n 1, 17, 0, 0, 0, [], [])), (17, (.if_icmp .ne 16, 20, 33, 0, 0, [], [])), (20, (.aload_n 0, 21, 0, 0, 0, [], [])), (21, (.getfield 18, 24, 0, 0, 0, [], [])), (24, (.iload_n 2, 25, 0, 0, 0, [], [])), (25, (.iaload, 26, 0, 0, 0, [], [])), (26, (.bipush (-9), 28, 0, (-9), 0, [], [])), (28, (.if_icmp .ne 5, 31, 33, 0, 0, [], [])), (31, (.iload_n 2, 32, 0, 0, 0, [], []))],
  [(32, (.ireturn, 33, 0, 0, 0, [], [])), (33, (.iinc 2 1, 36, 0, 1, 0, [], [])), (36, (.goto (-34), 39, 2, 0, 0, [], [])), (39, (.bipush (-9), 41, 0, (-9), 0, [], [])), (41, (.ireturn, 42, 0, 0, 0, [], []))]]
noncomputable abbrev zT_39 : zT := (4, zI_39, 1, 3) -- X4_firstUnseated
noncomputable def zI_40 : List (List (Nat × zE)) := [[(0, (.aload_n 0, 1, 0, 0, 0, [], [])), (1, (.aload_n 1, 2, 0, 0, 0, [], [])), (2, (.getfield 18, 5, 0, 0, 0, [], [])), (5, (.putfield 18, 8, 0, 0, 0, [], [])), (8, (.aload_n 1, 9, 0, 0, 0, [], [])), (9, (.getfield 9, 12, 0, 0, 0, [], [])), (12, (.aload_n 0, 13, 0, 0, 0, [], [])), (13, (.getfield 9, 16, 0, 0, 0, [], [])), (16, (.invokestatic 22, 19, 0, 0, 0, [], [])), (19, (.aload_n 1, 20, 0, 0, 0, [], [])), (20, (.getfield 15, 23, 0, 0, 0, [], [])), (23, (.aload_n 0, 24, 0, 0, 0, [], [])), (24, (.getfield 15, 27, 0, 0, 0, [], [])), (27, (.invokestatic 22, 30, 0, 0, 0, [], [])), (30, (.return_, 31, 0, 0, 0, [], []))]]
noncomputable abbrev zT_40 : zT := (5, zI_40, 0, 2) -- X5_copyFrom
noncomputable def zI_41 : List (List (Nat × zE)) := [[(0, (.aload_n 0, 1, 0, 0, 0, [], [])), (1, (.getfield 18, 4, 0, 0, 0, [], [])), (4, (.istore_n 3, 5, 0, 0, 0, [], [])), (5, (.aload_n 0, 6, 0, 0, 0, [], [])), (6, (.getfield 9, 9, 0, 0, 0, [], [])), (9, (.iload_n 3, 10, 0, 0, 0, [], [])), (10, (.iload_n 1, 11, 0, 0, 0, [], [])), (11, (.iastore, 12, 0, 0, 0, [], [])), (12, (.aload_n 0, 13, 0, 0, 0, [], [])), (13, (.getfield 15, 16, 0, 0, 0, [], [])), (16, (.iload_n 3, 17, 0, 0, 0, [], [])), (17, (.iload_n 2, 18, 0, 0, 0, [], [])), (18, (.iastore, 19, 0, 0, 0, [], [])), (19, (.aload_n 0, 20, 0, 0, 0, [], [])), (20, (.dup, 21, 0, 0, 0, [], [])), (21, (.getfield 18, 24, 0, 0, 0, [], [])), (24, (.iconst 1, 25, 0, 1, 0, [], [])), (25, (.iadd, 26, 0, 0, 0, [], [])), (26, (.putfield 18, 29, 0, 0, 0, [], [])), (29, (.iload_n 3, 30, 0, 0, 0, [], [])), (30, (.ireturn, 31, 0, 0, 0, [], []))]]
noncomputable abbrev zT_41 : zT := (5, zI_41, 1, 4) -- X5_note
noncomputable def zI_42 : List (List (Nat × zE)) := [[(0, (.aload_n 0, 1, 0, 0, 0, [], [])), (1, (.iconst 1, 2, 0, 1, 0, [], [])), (2, (.putfield 26, 5, 0, 0, 0, [], [])), (5, (.aload_n 0, 6, 0, 0, 0, [], [])), (6, (.sipush 200, 9, 0, 200, 0, [], [])), (9, (.putfield 29, 12, 0, 0, 0, [], [])), (12, (.iconst 0, 13, 0, 0, 0, [], [])), (13, (.istore_n 3, 14, 0, 0, 0, [], [])), (14, (.iload_n 3, 15, 0, 0, 0, [], [true, true, true, true])), (15, (.aload_n 0, 16, 0, 0, 0, [], [])), (16, (.getfield 18, 19, 0, 0, 0, [], [])), (19, (.if_icmp .ge 20, 22, 39, 0, 0, [], [])), (22, (.iload_n 3, 23, 0, 0, 0, [], [])), (23, (.iload_n 2, 24, 0, 0, 0, [], [])), (24, (.if_icmp .eq 9, 27, 33, 0, 0, [], [])), (27, (.aload_n 0, 28, 0, 0, 0, [], [])), (28, (.aload_n 1, 29, 0, 0, 0, [], [])), (29, (.iload_n 3, 30, 0, 0, 0, [], [])), (30, (.invokevirtual 32, 33, 0, 0, 0, [], []))],
  [(33, (.iinc 3 1, 36, 0, 1, 0, [], [])), (36, (.goto (-22), 39, 14, 0, 0, [], [])), (39, (.return_, 40, 0, 0, 0, [], []))]]
noncomputable abbrev zT_42 : zT := (5, zI_42, 0, 4) -- X5_fit
noncomputable def zI_43 : List (List (Nat × zE)) := [[(0, (.aload_n 1, 1, 0, 0, 0, [], [])), (1, (.getfield 36, 4, 0, 0, 0, [], [])), (4, (.aload_n 0, 5, 0, 0, 0, [], [])), (5, (.getfield 9, 8, 0, 0, 0, [], [])), (8, (.iload_n 2, 9, 0, 0, 0, [], [])), (9, (.iaload, 10, 0, 0, 0, [], [])), (10, (.invokevirtual 41, 13, 0, 0, 0, [], [])), (13, (.ifCond .ne 9, 16, 22, 0, 0, [], [])), (16, (.aload_n 0, 17, 0, 0, 0, [], [])), (17, (.iconst 0, 18, 0, 0, 0, [], [])), (18, (.putfield 29, 21, 0, 0, 0, [], [])), (21, (.return_, 22, 0, 0, 0, [], [])), (22, (.aload_n 1, 23, 0, 0, 0, [], [])), (23, (.invokevirtual 47, 26, 0, 0, 0, [], [])), (26, (.ifCond .eq 7, 29, 33, 0, 0, [], [])), (29, (.iconst 1, 30, 0, 1, 0, [], [])), (30, (.goto 15, 33, 45, 0, 0, [], []))],
  [(33, (.aload_n 1, 34, 0, 0, 0, [], [])), (34, (.aload_n 0, 35, 0, 0, 0, [], [])), (35, (.getfield 9, 38, 0, 0, 0, [], [])), (38, (.iload_n 2, 39, 0, 0, 0, [], [])), (39, (.iaload, 40, 0, 0, 0, [], [])), (40, (.invokevirtual 51, 43, 0, 0, 0, [], [])), (43, (.iconst 1, 44, 0, 1, 0, [], [])), (44, (.iadd, 45, 0, 0, 0, [], [])), (45, (.istore_n 3, 46, 0, 0, 0, [], [true, false, true, false])), (46, (.aload_n 0, 47, 0, 0, 0, [], [])), (47, (.getfield 15, 50, 0, 0, 0, [], [])), (50, (.iload_n 2, 51, 0, 0, 0, [], [])), (51, (.iaload, 52, 0, 0, 0, [], [])), (52, (.iconst 1, 53, 0, 1, 0, [], [])), (53, (.if_icmp .ne 18, 56, 71, 0, 0, [], [])), (56, (.aload_n 0, 57, 0, 0, 0, [], [])), (57, (.aload_n 0, 58, 0, 0, 0, [], [])), (58, (.getfield 26, 61, 0, 0, 0, [], [])), (61, (.iload_n 3, 62, 0, 0, 0, [], [])), (62, (.invokestatic 55, 65, 0, 0, 0, [], []))],
  [(65, (.putfield 26, 68, 0, 0, 0, [], [])), (68, (.goto 17, 71, 85, 0, 0, [], [])), (71, (.aload_n 0, 72, 0, 0, 0, [], [])), (72, (.aload_n 0, 73, 0, 0, 0, [], [])), (73, (.getfield 29, 76, 0, 0, 0, [], [])), (76, (.iload_n 3, 77, 0, 0, 0, [], [])), (77, (.iconst 1, 78, 0, 1, 0, [], [])), (78, (.isub, 79, 0, 0, 0, [], [])), (79, (.invokestatic 61, 82, 0, 0, 0, [], [])), (82, (.putfield 29, 85, 0, 0, 0, [], [])), (85, (.return_, 86, 0, 0, 0, [], []))]]
noncomputable abbrev zT_43 : zT := (5, zI_43, 0, 4) -- X5_narrow
noncomputable def zI_44 : List (List (Nat × zE)) := [[(0, (.iconst 0, 1, 0, 0, 0, [], [])), (1, (.aload_n 0, 2, 0, 0, 0, [], [])), (2, (.getfield 29, 5, 0, 0, 0, [], [])), (5, (.aload_n 0, 6, 0, 0, 0, [], [])), (6, (.getfield 26, 9, 0, 0, 0, [], [])), (9, (.isub, 10, 0, 0, 0, [], [])), (10, (.iconst 1, 11, 0, 1, 0, [], [])), (11, (.iadd, 12, 0, 0, 0, [], [])), (12, (.invokestatic 55, 15, 0, 0, 0, [], [])), (15, (.ireturn, 16, 0, 0, 0, [], []))]]
noncomputable abbrev zT_44 : zT := (5, zI_44, 1, 1) -- X5_fitting
noncomputable def zI_45 : List (List (Nat × zE)) := [[(0, (.iload_n 1, 1, 0, 0, 0, [], [])), (1, (.ifCond .lt 24, 4, 25, 0, 0, [], [])), (4, (.iload_n 1, 5, 0, 0, 0, [], [])), (5, (.aload_n 0, 6, 0, 0, 0, [], [])), (6, (.getfield 16, 9, 0, 0, 0, [], [])), (9, (.if_icmp .ge 16, 12, 25, 0, 0, [], [])), (12, (.iload_n 2, 13, 0, 0, 0, [], [])), (13, (.ifCond .lt 12, 16, 25, 0, 0, [], [])), (16, (.iload_n 2, 17, 0, 0, 0, [], [])), (17, (.iconst 3, 18, 0, 3, 0, [], [])), (18, (.if_icmp .ge 7, 21, 25, 0, 0, [], [])), (21, (.iconst 1, 22, 0, 1, 0, [], [])), (22, (.goto 4, 25, 26, 0, 0, [], [])), (25, (.iconst 0, 26, 0, 0, 0, [], [])), (26, (.ireturn, 27, 0, 0, 0, [], []))]]
noncomputable abbrev zT_45 : zT := (6, zI_45, 3, 3) -- X6_has
noncomputable def zI_46 : List (List (Nat × zE)) := [[(0, (.iload_n 2, 1, 0, 0, 0, [], [])), (1, (.istore_n 3, 2, 0, 0, 0, [], [])), (2, (.aload_n 0, 3, 0, 0, 0, [], [])), (3, (.iconst 0, 4, 0, 0, 0, [], [])), (4, (.putfield 16, 7, 0, 0, 0, [], [])), (7, (.iconst 0, 8, 0, 0, 0, [], [])), (8, (.istore 4, 10, 0, 0, 0, [], [])), (10, (.iload 4, 12, 0, 0, 0, [], [true, true, false, true, true])), (12, (.bipush 9, 14, 0, 9, 0, [], [])), (14, (.if_icmp .ge 79, 17, 93, 0, 0, [], [])), (17, (.aload_n 1, 18, 0, 0, 0, [], [])), (18, (.getfield 20, 21, 0, 0, 0, [], [])), (21, (.iload_n 3, 22, 0, 0, 0, [], [])), (22, (.invokevirtual 26, 25, 0, 0, 0, [], [])), (25, (.ifCond .eq 68, 28, 93, 0, 0, [], [])), (28, (.aload_n 0, 29, 0, 0, 0, [], [])), (29, (.getfield 11, 32, 0, 0, 0, [], []))],
  [(32, (.iload 4, 34, 0, 0, 0, [], [])), (34, (.aaload, 35, 0, 0, 0, [], [])), (35, (.iconst 0, 36, 0, 0, 0, [], [])), (36, (.iload_n 3, 37, 0, 0, 0, [], [])), (37, (.iastore, 38, 1, 0, 0, [], [])), (38, (.aload_n 0, 39, 0, 0, 0, [], [])), (39, (.getfield 11, 42, 0, 0, 0, [], [])), (42, (.iload 4, 44, 0, 0, 0, [], [])), (44, (.aaload, 45, 0, 0, 0, [], [])), (45, (.iconst 1, 46, 0, 1, 0, [], [])), (46, (.aload_n 1, 47, 0, 0, 0, [], [])), (47, (.iload_n 3, 48, 0, 0, 0, [], [])), (48, (.invokevirtual 32, 51, 0, 0, 0, [], [])), (51, (.iastore, 52, 2, 0, 0, [], [])), (52, (.aload_n 0, 53, 0, 0, 0, [], [])), (53, (.getfield 11, 56, 0, 0, 0, [], [])), (56, (.iload 4, 58, 0, 0, 0, [], [])), (58, (.aaload, 59, 0, 0, 0, [], [])), (59, (.iconst 2, 60, 0, 2, 0, [], [])), (60, (.aload_n 1, 61, 0, 0, 0, [], [])), (61, (.getfield 20, 64, 0, 0, 0, [], []))],
  [(64, (.iload_n 3, 65, 0, 0, 0, [], [])), (65, (.invokevirtual 36, 68, 0, 0, 0, [], [])), (68, (.iastore, 69, 3, 0, 0, [], [])), (69, (.aload_n 0, 70, 0, 0, 0, [], [])), (70, (.iload 4, 72, 0, 0, 0, [], [])), (72, (.iconst 1, 73, 0, 1, 0, [], [])), (73, (.iadd, 74, 0, 0, 0, [], [])), (74, (.putfield 16, 77, 0, 0, 0, [], [])), (77, (.aload_n 1, 78, 0, 0, 0, [], [])), (78, (.getfield 20, 81, 0, 0, 0, [], [])), (81, (.getfield 39, 84, 0, 0, 0, [], [])), (84, (.iload_n 3, 85, 0, 0, 0, [], [])), (85, (.iaload, 86, 0, 0, 0, [], [])), (86, (.istore_n 3, 87, 0, 0, 0, [], [])), (87, (.iinc 4 1, 90, 0, 1, 0, [], [])), (90, (.goto (-80), 93, 10, 0, 0, [], [])), (93, (.return_, 94, 0, 0, 0, [], []))]]
noncomputable abbrev zT_46 : zT := (6, zI_46, 0, 5) -- X6_tell
noncomputable def zI_47 : List (List (Nat × zE)) := [[(0, (.bipush (-9), 2, 0, (-9), 0, [], [])), (2, (.istore_n 2, 3, 0, 0, 0, [], [])), (3, (.iconst 0, 4, 0, 0, 0, [], [])), (4, (.istore_n 3, 5, 0, 0, 0, [], [])), (5, (.iload_n 3, 6, 0, 0, 0, [], [true, true, true, true, false])), (6, (.aload_n 0, 7, 0, 0, 0, [], [])), (7, (.getfield 16, 10, 0, 0, 0, [], [])), (10, (.if_icmp .ge 97, 13, 107, 0, 0, [], [])), (13, (.aload_n 0, 14, 0, 0, 0, [], [])), (14, (.getfield 11, 17, 0, 0, 0, [], [])), (17, (.iload_n 3, 18, 0, 0, 0, [], [])), (18, (.aaload, 19, 0, 0, 0, [], [])), (19, (.iconst 0, 20, 0, 0, 0, [], [])), (20, (.iaload, 21, 1, 0, 0, [], [])), (21, (.istore 4, 23, 0, 0, 0, [], [])), (23, (.aload_n 1, 24, 0, 0, 0, [], [])), (24, (.getfield 20, 27, 0, 0, 0, [], [])), (27, (.iload 4, 29, 0, 0, 0, [], [])), (29, (.invokevirtual 26, 32, 0, 0, 0, [], []))],
  [(32, (.ifCond .eq 13, 35, 45, 0, 0, [], [])), (35, (.iload_n 3, 36, 0, 0, 0, [], [])), (36, (.ifCond .le 13, 39, 49, 0, 0, [], [])), (39, (.iload 4, 41, 0, 0, 0, [], [])), (41, (.iload_n 2, 42, 0, 0, 0, [], [])), (42, (.if_icmp .eq 7, 45, 49, 0, 0, [], [])), (45, (.iload_n 3, 46, 0, 0, 0, [], [])), (46, (.iconst 1, 47, 0, 1, 0, [], [])), (47, (.iadd, 48, 0, 0, 0, [], [])), (48, (.ireturn, 49, 0, 0, 0, [], [])), (49, (.aload_n 0, 50, 0, 0, 0, [], [true, true, false, true, true])), (50, (.getfield 11, 53, 0, 0, 0, [], [])), (53, (.iload_n 3, 54, 0, 0, 0, [], [])), (54, (.aaload, 55, 0, 0, 0, [], [])), (55, (.iconst 1, 56, 0, 1, 0, [], [])), (56, (.iaload, 57, 2, 0, 0, [], [])), (57, (.aload_n 1, 58, 0, 0, 0, [], [])), (58, (.iload 4, 60, 0, 0, 0, [], [])), (60, (.invokevirtual 32, 63, 0, 0, 0, [], [])), (63, (.if_icmp .ne 23, 66, 86, 0, 0, [], []))],
  [(66, (.aload_n 0, 67, 0, 0, 0, [], [])), (67, (.getfield 11, 70, 0, 0, 0, [], [])), (70, (.iload_n 3, 71, 0, 0, 0, [], [])), (71, (.aaload, 72, 0, 0, 0, [], [])), (72, (.iconst 2, 73, 0, 2, 0, [], [])), (73, (.iaload, 74, 3, 0, 0, [], [])), (74, (.aload_n 1, 75, 0, 0, 0, [], [])), (75, (.getfield 20, 78, 0, 0, 0, [], [])), (78, (.iload 4, 80, 0, 0, 0, [], [])), (80, (.invokevirtual 36, 83, 0, 0, 0, [], [])), (83, (.if_icmp .eq 7, 86, 90, 0, 0, [], [])), (86, (.iload_n 3, 87, 0, 0, 0, [], [])), (87, (.iconst 1, 88, 0, 1, 0, [], [])), (88, (.iadd, 89, 0, 0, 0, [], [])), (89, (.ireturn, 90, 0, 0, 0, [], [])), (90, (.aload_n 1, 91, 0, 0, 0, [], [])), (91, (.getfield 20, 94, 0, 0, 0, [], [])), (94, (.getfield 39, 97, 0, 0, 0, [], []))],
  [(97, (.iload 4, 99, 0, 0, 0, [], [])), (99, (.iaload, 100, 0, 0, 0, [], [])), (100, (.istore_n 2, 101, 0, 0, 0, [], [])), (101, (.iinc 3 1, 104, 0, 1, 0, [], [])), (104, (.goto (-99), 107, 5, 0, 0, [], [])), (107, (.iload_n 2, 108, 0, 0, 0, [], [])), (108, (.bipush (-9), 110, 0, (-9), 0, [], [])), (110, (.if_icmp .ne 7, 113, 117, 0, 0, [], [])), (113, (.iconst 0, 114, 0, 0, 0, [], [])), (114, (.goto 7, 117, 121, 0, 0, [], [])), (117, (.aload_n 0, 118, 0, 0, 0, [], [])), (118, (.getfield 16, 121, 0, 0, 0, [], [])), (121, (.ireturn, 122, 0, 0, 0, [], []))]]
noncomputable abbrev zT_47 : zT := (6, zI_47, 1, 5) -- X6_firstWrong
noncomputable def zI_48 : List (List (Nat × zE)) := [[(0, (.aload_n 0, 1, 0, 0, 0, [], [])), (1, (.getfield 12, 4, 0, 0, 0, [], [])), (4, (.iconst 0, 5, 0, 0, 0, [], [])), (5, (.putfield 22, 8, 0, 0, 0, [], [])), (8, (.aload_n 0, 9, 0, 0, 0, [], [])), (9, (.iconst 0, 10, 0, 0, 0, [], [])), (10, (.putfield 26, 13, 0, 0, 0, [], [])), (13, (.aload_n 0, 14, 0, 0, 0, [], [])), (14, (.iconst 0, 15, 0, 0, 0, [], [])), (15, (.putfield 29, 18, 0, 0, 0, [], [])), (18, (.aload_n 0, 19, 0, 0, 0, [], [])), (19, (.iconst 0, 20, 0, 0, 0, [], [])), (20, (.putfield 32, 23, 0, 0, 0, [], [])), (23, (.aload_n 0, 24, 0, 0, 0, [], [])), (24, (.iconst 0, 25, 0, 0, 0, [], [])), (25, (.putfield 35, 28, 0, 0, 0, [], [])), (28, (.iconst 0, 29, 0, 0, 0, [], [])), (29, (.istore_n 2, 30, 0, 0, 0, [], [])), (30, (.iconst 0, 31, 0, 0, 0, [], [])), (31, (.istore_n 3, 32, 0, 0, 0, [], []))],
  [(32, (.iload_n 3, 33, 0, 0, 0, [], [true, true, true, true])), (33, (.aload_n 1, 34, 0, 0, 0, [], [])), (34, (.getfield 38, 37, 0, 0, 0, [], [])), (37, (.if_icmp .ge 58, 40, 95, 0, 0, [], [])), (40, (.iload_n 3, 41, 0, 0, 0, [], [])), (41, (.iload_n 2, 42, 0, 0, 0, [], [])), (42, (.if_icmp .lt 47, 45, 89, 0, 0, [], [])), (45, (.aload_n 1, 46, 0, 0, 0, [], [])), (46, (.iload_n 3, 47, 0, 0, 0, [], [])), (47, (.invokevirtual 41, 50, 0, 0, 0, [], [])), (50, (.ifCond .eq 6, 53, 56, 0, 0, [], [])), (53, (.goto 36, 56, 89, 0, 0, [], [])), (56, (.aload_n 1, 57, 0, 0, 0, [], [])), (57, (.iload_n 3, 58, 0, 0, 0, [], [])), (58, (.invokevirtual 45, 61, 0, 0, 0, [], [])), (61, (.istore_n 2, 62, 0, 0, 0, [], [])), (62, (.aload_n 0, 63, 0, 0, 0, [], [])), (63, (.getfield 12, 66, 0, 0, 0, [], []))],
  [(66, (.getfield 22, 69, 0, 0, 0, [], [])), (69, (.bipush 8, 71, 0, 8, 0, [], [])), (71, (.if_icmp .ge 16, 74, 87, 0, 0, [], [])), (74, (.aload_n 0, 75, 0, 0, 0, [], [])), (75, (.aload_n 1, 76, 0, 0, 0, [], [])), (76, (.iload_n 3, 77, 0, 0, 0, [], [])), (77, (.iload_n 2, 78, 0, 0, 0, [], [])), (78, (.invokevirtual 49, 81, 0, 0, 0, [], [])), (81, (.invokevirtual 53, 84, 0, 0, 0, [], [])), (84, (.ifCond .ne 5, 87, 89, 0, 0, [], [])), (87, (.iload_n 3, 88, 0, 0, 0, [], [])), (88, (.ireturn, 89, 0, 0, 0, [], [])), (89, (.iinc 3 1, 92, 0, 1, 0, [], [])), (92, (.goto (-60), 95, 32, 0, 0, [], [])), (95, (.aload_n 0, 96, 0, 0, 0, [], []))],
  [(96, (.getfield 26, 99, 0, 0, 0, [], [])), (99, (.ifCond .ne 8, 102, 107, 0, 0, [], [])), (102, (.bipush (-9), 104, 0, (-9), 0, [], [])), (104, (.goto 7, 107, 111, 0, 0, [], [])), (107, (.aload_n 1, 108, 0, 0, 0, [], [])), (108, (.getfield 38, 111, 0, 0, 0, [], [])), (111, (.ireturn, 112, 0, 0, 0, [], []))]]
noncomputable abbrev zT_48 : zT := (7, zI_48, 1, 4) -- X7_faultOf
noncomputable def zI_49 : List (List (Nat × zE)) := [[(0, (.aload_n 0, 1, 0, 0, 0, [], [])), (1, (.getfield 26, 4, 0, 0, 0, [], [])), (4, (.tableswitch 102 0 6 #[44, 50, 72, 78, 84, 90, 96], 48, 106, 0, 0, [(0, 48), (1, 54), (2, 76), (3, 82), (4, 88), (5, 94), (6, 100)], []))],
  [(48, (.aload_n 0, 49, 0, 0, 0, [], [])), (49, (.iload_n 1, 50, 0, 0, 0, [], [])), (50, (.invokevirtual 56, 53, 0, 0, 0, [], [])), (53, (.ireturn, 54, 0, 0, 0, [], [])), (54, (.aload_n 0, 55, 0, 0, 0, [], [])), (55, (.iload_n 1, 56, 0, 0, 0, [], [])), (56, (.invokevirtual 59, 59, 0, 0, 0, [], [])), (59, (.ifCond .ne 11, 62, 70, 0, 0, [], [])), (62, (.aload_n 0, 63, 0, 0, 0, [], [])), (63, (.iload_n 1, 64, 0, 0, 0, [], []))],
  [(64, (.invokevirtual 62, 67, 0, 0, 0, [], [])), (67, (.ifCond .eq 7, 70, 74, 0, 0, [], [])), (70, (.iconst 1, 71, 0, 1, 0, [], [])), (71, (.goto 4, 74, 75, 0, 0, [], [])), (74, (.iconst 0, 75, 0, 0, 0, [], [])), (75, (.ireturn, 76, 0, 0, 0, [], [])), (76, (.aload_n 0, 77, 0, 0, 0, [], [])), (77, (.iload_n 1, 78, 0, 0, 0, [], [])), (78, (.invokevirtual 65, 81, 0, 0, 0, [], [])), (81, (.ireturn, 82, 0, 0, 0, [], [])), (82, (.aload_n 0, 83, 0, 0, 0, [], [])), (83, (.iload_n 1, 84, 0, 0, 0, [], [])), (84, (.invokevirtual 68, 87, 0, 0, 0, [], [])), (87, (.ireturn, 88, 0, 0, 0, [], [])), (88, (.aload_n 0, 89, 0, 0, 0, [], [])), (89, (.iload_n 1, 90, 0, 0, 0, [], [])), (90, (.invokevirtual 71, 93, 0, 0, 0, [], [])), (93, (.ireturn, 94, 0, 0, 0, [], [])), (94, (.aload_n 0, 95, 0, 0, 0, [], [])), (95, (.iload_n 1, 96, 0, 0, 0, [], []))],
  [(96, (.invokevirtual 74, 99, 0, 0, 0, [], [])), (99, (.ireturn, 100, 0, 0, 0, [], [])), (100, (.aload_n 0, 101, 0, 0, 0, [], [])), (101, (.iload_n 1, 102, 0, 0, 0, [], [])), (102, (.invokevirtual 77, 105, 0, 0, 0, [], [])), (105, (.ireturn, 106, 0, 0, 0, [], [])), (106, (.aload_n 0, 107, 0, 0, 0, [], [])), (107, (.iload_n 1, 108, 0, 0, 0, [], [])), (108, (.invokevirtual 80, 111, 0, 0, 0, [], [])), (111, (.ifCond .ne 18, 114, 129, 0, 0, [], [])), (114, (.aload_n 0, 115, 0, 0, 0, [], [])), (115, (.getfield 29, 118, 0, 0, 0, [], [])), (118, (.ifCond .ne 15, 121, 133, 0, 0, [], [])), (121, (.aload_n 0, 122, 0, 0, 0, [], [])), (122, (.iload_n 1, 123, 0, 0, 0, [], [])), (123, (.invokevirtual 62, 126, 0, 0, 0, [], [])), (126, (.ifCond .eq 7, 129, 133, 0, 0, [], []))],
  [(129, (.iconst 1, 130, 0, 1, 0, [], [])), (130, (.goto 4, 133, 134, 0, 0, [], [])), (133, (.iconst 0, 134, 0, 0, 0, [], [])), (134, (.ireturn, 135, 0, 0, 0, [], []))]]
noncomputable abbrev zT_49 : zT := (7, zI_49, 3, 2) -- X7_takes
noncomputable def zI_50 : List (List (Nat × zE)) := [[(0, (.bipush (-20), 2, 0, (-20), 0, [], [])), (2, (.iload_n 1, 3, 0, 0, 0, [], [])), (3, (.isub, 4, 0, 0, 0, [], [])), (4, (.iconst 0, 5, 0, 0, 0, [], [])), (5, (.iconst 5, 6, 0, 5, 0, [], [])), (6, (.invokestatic 83, 9, 0, 0, 0, [], [])), (9, (.ifCond .ne 5, 12, 14, 0, 0, [], [])), (12, (.iconst 0, 13, 0, 0, 0, [], [])), (13, (.ireturn, 14, 0, 0, 0, [], [])), (14, (.aload_n 0, 15, 0, 0, 0, [], [])), (15, (.getfield 12, 18, 0, 0, 0, [], [])), (18, (.getfield 87, 21, 0, 0, 0, [], [])), (21, (.aload_n 0, 22, 0, 0, 0, [], [])), (22, (.getfield 12, 25, 0, 0, 0, [], [])), (25, (.getfield 22, 28, 0, 0, 0, [], [])), (28, (.bipush (-20), 30, 0, (-20), 0, [], [])), (30, (.iload_n 1, 31, 0, 0, 0, [], [])), (31, (.isub, 32, 0, 0, 0, [], []))],
  [(32, (.iastore, 33, 0, 0, 0, [], [])), (33, (.aload_n 0, 34, 0, 0, 0, [], [])), (34, (.iconst 1, 35, 0, 1, 0, [], [])), (35, (.putfield 26, 38, 0, 0, 0, [], [])), (38, (.iconst 1, 39, 0, 1, 0, [], [])), (39, (.ireturn, 40, 0, 0, 0, [], []))]]
noncomputable abbrev zT_50 : zT := (7, zI_50, 3, 2) -- X7_takesKind
noncomputable def zI_51 : List (List (Nat × zE)) := [[(0, (.iload_n 1, 1, 0, 0, 0, [], [])), (1, (.bipush (-15), 3, 0, (-15), 0, [], [])), (3, (.if_icmp .eq 5, 6, 8, 0, 0, [], [])), (6, (.iconst 0, 7, 0, 0, 0, [], [])), (7, (.ireturn, 8, 0, 0, 0, [], [])), (8, (.aload_n 0, 9, 0, 0, 0, [], [])), (9, (.iconst 4, 10, 0, 4, 0, [], [])), (10, (.putfield 26, 13, 0, 0, 0, [], [])), (13, (.iconst 1, 14, 0, 1, 0, [], [])), (14, (.ireturn, 15, 0, 0, 0, [], []))]]
noncomputable abbrev zT_51 : zT := (7, zI_51, 3, 2) -- X7_takesIf
noncomputable def zI_52 : List (List (Nat × zE)) := [[(0, (.iload_n 1, 1, 0, 0, 0, [], [])), (1, (.bipush (-16), 3, 0, (-16), 0, [], [])), (3, (.if_icmp .eq 17, 6, 20, 0, 0, [], [])), (6, (.iload_n 1, 7, 0, 0, 0, [], [])), (7, (.bipush (-17), 9, 0, (-17), 0, [], [])), (9, (.if_icmp .eq 11, 12, 20, 0, 0, [], [])), (12, (.iload_n 1, 13, 0, 0, 0, [], [])), (13, (.bipush (-18), 15, 0, (-18), 0, [], [])), (15, (.if_icmp .eq 5, 18, 20, 0, 0, [], [])), (18, (.iconst 0, 19, 0, 0, 0, [], [])), (19, (.ireturn, 20, 0, 0, 0, [], [])), (20, (.aload_n 0, 21, 0, 0, 0, [], [true, true])), (21, (.bipush (-11), 23, 0, (-11), 0, [], [])), (23, (.invokevirtual 90, 26, 0, 0, 0, [], [])), (26, (.aload_n 0, 27, 0, 0, 0, [], [])), (27, (.getfield 12, 30, 0, 0, 0, [], [])), (30, (.getfield 94, 33, 0, 0, 0, [], []))],
  [(33, (.aload_n 0, 34, 0, 0, 0, [], [])), (34, (.getfield 12, 37, 0, 0, 0, [], [])), (37, (.getfield 22, 40, 0, 0, 0, [], [])), (40, (.iload_n 1, 41, 0, 0, 0, [], [])), (41, (.iastore, 42, 0, 0, 0, [], [])), (42, (.aload_n 0, 43, 0, 0, 0, [], [])), (43, (.iload_n 1, 44, 0, 0, 0, [], [])), (44, (.bipush (-18), 46, 0, (-18), 0, [], [])), (46, (.if_icmp .ne 7, 49, 53, 0, 0, [], [])), (49, (.iconst 3, 50, 0, 3, 0, [], [])), (50, (.goto 4, 53, 54, 0, 0, [], [])), (53, (.iconst 2, 54, 0, 2, 0, [], [])), (54, (.putfield 26, 57, 0, 0, 0, [], [])), (57, (.iconst 1, 58, 0, 1, 0, [], [])), (58, (.ireturn, 59, 0, 0, 0, [], []))]]
noncomputable abbrev zT_52 : zT := (7, zI_52, 3, 2) -- X7_takesDeed
noncomputable def zI_53 : List (List (Nat × zE)) := [[(0, (.iload_n 1, 1, 0, 0, 0, [], [])), (1, (.iconst 0, 2, 0, 0, 0, [], [])), (2, (.sipush 999, 5, 0, 999, 0, [], [])), (5, (.invokestatic 83, 8, 0, 0, 0, [], [])), (8, (.ifCond .ne 5, 11, 13, 0, 0, [], [])), (11, (.iconst 0, 12, 0, 0, 0, [], [])), (12, (.ireturn, 13, 0, 0, 0, [], [])), (13, (.aload_n 0, 14, 0, 0, 0, [], [])), (14, (.getfield 12, 17, 0, 0, 0, [], [])), (17, (.getfield 97, 20, 0, 0, 0, [], [])), (20, (.aload_n 0, 21, 0, 0, 0, [], [])), (21, (.getfield 12, 24, 0, 0, 0, [], [])), (24, (.getfield 22, 27, 0, 0, 0, [], [])), (27, (.iload_n 1, 28, 0, 0, 0, [], [])), (28, (.iastore, 29, 0, 0, 0, [], [])), (29, (.aload_n 0, 30, 0, 0, 0, [], [])), (30, (.iconst 3, 31, 0, 3, 0, [], [])), (31, (.putfield 26, 34, 0, 0, 0, [], []))],
  [(34, (.iconst 1, 35, 0, 1, 0, [], [])), (35, (.ireturn, 36, 0, 0, 0, [], []))]]
noncomputable abbrev zT_53 : zT := (7, zI_53, 3, 2) -- X7_takesAmount
noncomputable def zI_54 : List (List (Nat × zE)) := [[(0, (.iload_n 1, 1, 0, 0, 0, [], [])), (1, (.bipush (-14), 3, 0, (-14), 0, [], [])), (3, (.if_icmp .eq 5, 6, 8, 0, 0, [], [])), (6, (.iconst 0, 7, 0, 0, 0, [], [])), (7, (.ireturn, 8, 0, 0, 0, [], [])), (8, (.aload_n 0, 9, 0, 0, 0, [], [])), (9, (.getfield 12, 12, 0, 0, 0, [], [])), (12, (.getfield 100, 15, 0, 0, 0, [], [])), (15, (.aload_n 0, 16, 0, 0, 0, [], [])), (16, (.getfield 12, 19, 0, 0, 0, [], [])), (19, (.getfield 22, 22, 0, 0, 0, [], [])), (22, (.aload_n 0, 23, 0, 0, 0, [], [])), (23, (.getfield 32, 26, 0, 0, 0, [], [])), (26, (.iastore, 27, 0, 0, 0, [], [])), (27, (.aload_n 0, 28, 0, 0, 0, [], [])), (28, (.getfield 12, 31, 0, 0, 0, [], [])), (31, (.dup, 32, 0, 0, 0, [], []))],
  [(32, (.getfield 22, 35, 0, 0, 0, [], [])), (35, (.iconst 1, 36, 0, 1, 0, [], [])), (36, (.iadd, 37, 0, 0, 0, [], [])), (37, (.putfield 22, 40, 0, 0, 0, [], [])), (40, (.aload_n 0, 41, 0, 0, 0, [], [])), (41, (.iconst 0, 42, 0, 0, 0, [], [])), (42, (.putfield 26, 45, 0, 0, 0, [], [])), (45, (.iconst 1, 46, 0, 1, 0, [], [])), (46, (.ireturn, 47, 0, 0, 0, [], []))]]
noncomputable abbrev zT_54 : zT := (7, zI_54, 3, 2) -- X7_takesEnd
noncomputable def zI_55 : List (List (Nat × zE)) := [[(0, (.iload_n 1, 1, 0, 0, 0, [], [])), (1, (.bipush (-9), 3, 0, (-9), 0, [], [])), (3, (.if_icmp .ne 11, 6, 14, 0, 0, [], [])), (6, (.aload_n 0, 7, 0, 0, 0, [], [])), (7, (.bipush (-9), 9, 0, (-9), 0, [], [])), (9, (.invokevirtual 103, 12, 0, 0, 0, [], [])), (12, (.iconst 1, 13, 0, 1, 0, [], [])), (13, (.ireturn, 14, 0, 0, 0, [], [])), (14, (.iload_n 1, 15, 0, 0, 0, [], [])), (15, (.bipush (-12), 17, 0, (-12), 0, [], [])), (17, (.if_icmp .ne 29, 20, 46, 0, 0, [], [])), (20, (.aload_n 0, 21, 0, 0, 0, [], [])), (21, (.getfield 29, 24, 0, 0, 0, [], [])), (24, (.iconst 3, 25, 0, 3, 0, [], [])), (25, (.if_icmp .ge 21, 28, 46, 0, 0, [], [])), (28, (.aload_n 0, 29, 0, 0, 0, [], [])), (29, (.dup, 30, 0, 0, 0, [], [])), (30, (.getfield 29, 33, 0, 0, 0, [], []))],
  [(33, (.iconst 1, 34, 0, 1, 0, [], [])), (34, (.iadd, 35, 0, 0, 0, [], [])), (35, (.putfield 29, 38, 0, 0, 0, [], [])), (38, (.aload_n 0, 39, 0, 0, 0, [], [])), (39, (.bipush (-12), 41, 0, (-12), 0, [], [])), (41, (.invokevirtual 103, 44, 0, 0, 0, [], [])), (44, (.iconst 1, 45, 0, 1, 0, [], [])), (45, (.ireturn, 46, 0, 0, 0, [], [])), (46, (.iload_n 1, 47, 0, 0, 0, [], [])), (47, (.invokestatic 106, 50, 0, 0, 0, [], [])), (50, (.ifCond .ne 5, 53, 55, 0, 0, [], [])), (53, (.iconst 0, 54, 0, 0, 0, [], [])), (54, (.ireturn, 55, 0, 0, 0, [], [])), (55, (.aload_n 0, 56, 0, 0, 0, [], [])), (56, (.iload_n 1, 57, 0, 0, 0, [], [])), (57, (.invokevirtual 109, 60, 0, 0, 0, [], [])), (60, (.aload_n 0, 61, 0, 0, 0, [], [])), (61, (.iconst 5, 62, 0, 5, 0, [], [])), (62, (.putfield 26, 65, 0, 0, 0, [], []))],
  [(65, (.iconst 1, 66, 0, 1, 0, [], [])), (66, (.ireturn, 67, 0, 0, 0, [], []))]]
noncomputable abbrev zT_55 : zT := (7, zI_55, 3, 2) -- X7_takesOne
noncomputable def zI_56 : List (List (Nat × zE)) := [[(0, (.iload_n 1, 1, 0, 0, 0, [], [])), (1, (.bipush (-8), 3, 0, (-8), 0, [], [])), (3, (.bipush (-6), 5, 0, (-6), 0, [], [])), (5, (.invokestatic 83, 8, 0, 0, 0, [], [])), (8, (.ifCond .ne 5, 11, 13, 0, 0, [], [])), (11, (.iconst 0, 12, 0, 0, 0, [], [])), (12, (.ireturn, 13, 0, 0, 0, [], [])), (13, (.aload_n 0, 14, 0, 0, 0, [], [])), (14, (.iload_n 1, 15, 0, 0, 0, [], [])), (15, (.putfield 112, 18, 0, 0, 0, [], [])), (18, (.aload_n 0, 19, 0, 0, 0, [], [])), (19, (.bipush 6, 21, 0, 6, 0, [], [])), (21, (.putfield 26, 24, 0, 0, 0, [], [])), (24, (.iconst 1, 25, 0, 1, 0, [], [])), (25, (.ireturn, 26, 0, 0, 0, [], []))]]
noncomputable abbrev zT_56 : zT := (7, zI_56, 3, 2) -- X7_takesSign
noncomputable def zI_57 : List (List (Nat × zE)) := [[(0, (.iload_n 1, 1, 0, 0, 0, [], [])), (1, (.invokestatic 106, 4, 0, 0, 0, [], [])), (4, (.ifCond .ne 5, 7, 9, 0, 0, [], [])), (7, (.iconst 0, 8, 0, 0, 0, [], [])), (8, (.ireturn, 9, 0, 0, 0, [], [])), (9, (.aload_n 0, 10, 0, 0, 0, [], [])), (10, (.iload_n 1, 11, 0, 0, 0, [], [])), (11, (.invokevirtual 109, 14, 0, 0, 0, [], [])), (14, (.aload_n 0, 15, 0, 0, 0, [], [])), (15, (.aload_n 0, 16, 0, 0, 0, [], [])), (16, (.getfield 112, 19, 0, 0, 0, [], [])), (19, (.invokevirtual 109, 22, 0, 0, 0, [], [])), (22, (.aload_n 0, 23, 0, 0, 0, [], [])), (23, (.bipush 7, 25, 0, 7, 0, [], [])), (25, (.putfield 26, 28, 0, 0, 0, [], [])), (28, (.iconst 1, 29, 0, 1, 0, [], [])), (29, (.ireturn, 30, 0, 0, 0, [], []))]]
noncomputable abbrev zT_57 : zT := (7, zI_57, 3, 2) -- X7_takesValue
noncomputable def zI_58 : List (List (Nat × zE)) := [[(0, (.iload_n 1, 1, 0, 0, 0, [], [])), (1, (.bipush (-10), 3, 0, (-10), 0, [], [])), (3, (.if_icmp .eq 9, 6, 12, 0, 0, [], [])), (6, (.iload_n 1, 7, 0, 0, 0, [], [])), (7, (.bipush (-11), 9, 0, (-11), 0, [], [])), (9, (.if_icmp .ne 20, 12, 29, 0, 0, [], [])), (12, (.aload_n 0, 13, 0, 0, 0, [], [])), (13, (.iload_n 1, 14, 0, 0, 0, [], [])), (14, (.invokevirtual 90, 17, 0, 0, 0, [], [])), (17, (.aload_n 0, 18, 0, 0, 0, [], [])), (18, (.iload_n 1, 19, 0, 0, 0, [], [])), (19, (.invokevirtual 103, 22, 0, 0, 0, [], [])), (22, (.aload_n 0, 23, 0, 0, 0, [], [])), (23, (.iconst 4, 24, 0, 4, 0, [], [])), (24, (.putfield 26, 27, 0, 0, 0, [], [])), (27, (.iconst 1, 28, 0, 1, 0, [], [])), (28, (.ireturn, 29, 0, 0, 0, [], [])), (29, (.iload_n 1, 30, 0, 0, 0, [], [])), (30, (.bipush (-13), 32, 0, (-13), 0, [], []))],
  [(32, (.if_icmp .ne 10, 35, 42, 0, 0, [], [])), (35, (.aload_n 0, 36, 0, 0, 0, [], [])), (36, (.getfield 29, 39, 0, 0, 0, [], [])), (39, (.ifCond .ne 5, 42, 44, 0, 0, [], [])), (42, (.iconst 0, 43, 0, 0, 0, [], [])), (43, (.ireturn, 44, 0, 0, 0, [], [])), (44, (.aload_n 0, 45, 0, 0, 0, [], [])), (45, (.bipush (-11), 47, 0, (-11), 0, [], [])), (47, (.invokevirtual 90, 50, 0, 0, 0, [], [])), (50, (.aload_n 0, 51, 0, 0, 0, [], [])), (51, (.iconst 0, 52, 0, 0, 0, [], [])), (52, (.aload_n 0, 53, 0, 0, 0, [], [])), (53, (.getfield 35, 56, 0, 0, 0, [], [])), (56, (.iconst 1, 57, 0, 1, 0, [], [])), (57, (.isub, 58, 0, 0, 0, [], [])), (58, (.invokestatic 115, 61, 0, 0, 0, [], [])), (61, (.putfield 35, 64, 0, 0, 0, [], []))],
  [(64, (.aload_n 0, 65, 0, 0, 0, [], [])), (65, (.dup, 66, 0, 0, 0, [], [])), (66, (.getfield 29, 69, 0, 0, 0, [], [])), (69, (.iconst 1, 70, 0, 1, 0, [], [])), (70, (.isub, 71, 0, 0, 0, [], [])), (71, (.putfield 29, 74, 0, 0, 0, [], [])), (74, (.iconst 1, 75, 0, 1, 0, [], [])), (75, (.ireturn, 76, 0, 0, 0, [], []))]]
noncomputable abbrev zT_58 : zT := (7, zI_58, 3, 2) -- X7_takesJoint
noncomputable def zI_59 : List (List (Nat × zE)) := [[(0, (.iload_n 0, 1, 0, 0, 0, [], [])), (1, (.bipush (-5), 3, 0, (-5), 0, [], [])), (3, (.if_icmp .lt 7, 6, 10, 0, 0, [], [])), (6, (.iconst 1, 7, 0, 1, 0, [], [])), (7, (.goto 4, 10, 11, 0, 0, [], [])), (10, (.iconst 0, 11, 0, 0, 0, [], [])), (11, (.ireturn, 12, 0, 0, 0, [], []))]]
noncomputable abbrev zT_59 : zT := (7, zI_59, 3, 1) -- X7_isValue
noncomputable def zI_60 : List (List (Nat × zE)) := [[(0, (.aload_n 0, 1, 0, 0, 0, [], [])), (1, (.getfield 35, 4, 0, 0, 0, [], [])), (4, (.sipush 200, 7, 0, 200, 0, [], [])), (7, (.if_icmp .ge 23, 10, 30, 0, 0, [], [])), (10, (.aload_n 0, 11, 0, 0, 0, [], [])), (11, (.getfield 18, 14, 0, 0, 0, [], [])), (14, (.aload_n 0, 15, 0, 0, 0, [], [])), (15, (.getfield 35, 18, 0, 0, 0, [], [])), (18, (.iload_n 1, 19, 0, 0, 0, [], [])), (19, (.iastore, 20, 0, 0, 0, [], [])), (20, (.aload_n 0, 21, 0, 0, 0, [], [])), (21, (.dup, 22, 0, 0, 0, [], [])), (22, (.getfield 35, 25, 0, 0, 0, [], [])), (25, (.iconst 1, 26, 0, 1, 0, [], [])), (26, (.iadd, 27, 0, 0, 0, [], [])), (27, (.putfield 35, 30, 0, 0, 0, [], [])), (30, (.return_, 31, 0, 0, 0, [], []))]]
noncomputable abbrev zT_60 : zT := (7, zI_60, 0, 2) -- X7_await
noncomputable def zI_61 : List (List (Nat × zE)) := [[(0, (.aload_n 0, 1, 0, 0, 0, [], [])), (1, (.getfield 35, 4, 0, 0, 0, [], [])), (4, (.iconst 1, 5, 0, 1, 0, [], [])), (5, (.isub, 6, 0, 0, 0, [], [])), (6, (.istore_n 2, 7, 0, 0, 0, [], [])), (7, (.iload_n 2, 8, 0, 0, 0, [], [true, true, true])), (8, (.ifCond .lt 34, 11, 42, 0, 0, [], [])), (11, (.aload_n 0, 12, 0, 0, 0, [], [])), (12, (.getfield 18, 15, 0, 0, 0, [], [])), (15, (.iload_n 2, 16, 0, 0, 0, [], [])), (16, (.iaload, 17, 0, 0, 0, [], [])), (17, (.iload_n 1, 18, 0, 0, 0, [], [])), (18, (.if_icmp .lt 24, 21, 42, 0, 0, [], [])), (21, (.aload_n 0, 22, 0, 0, 0, [], [])), (22, (.aload_n 0, 23, 0, 0, 0, [], [])), (23, (.getfield 18, 26, 0, 0, 0, [], [])), (26, (.iload_n 2, 27, 0, 0, 0, [], [])), (27, (.iaload, 28, 0, 0, 0, [], [])), (28, (.invokevirtual 109, 31, 0, 0, 0, [], [])), (31, (.aload_n 0, 32, 0, 0, 0, [], []))],
  [(32, (.iload_n 2, 33, 0, 0, 0, [], [])), (33, (.putfield 35, 36, 0, 0, 0, [], [])), (36, (.iinc 2 (-1), 39, 0, (-1), 0, [], [])), (39, (.goto (-32), 42, 7, 0, 0, [], [])), (42, (.return_, 43, 0, 0, 0, [], []))]]
noncomputable abbrev zT_61 : zT := (7, zI_61, 0, 3) -- X7_settle
noncomputable def zI_62 : List (List (Nat × zE)) := [[(0, (.aload_n 0, 1, 0, 0, 0, [], [])), (1, (.getfield 32, 4, 0, 0, 0, [], [])), (4, (.sipush 200, 7, 0, 200, 0, [], [])), (7, (.if_icmp .ge 26, 10, 33, 0, 0, [], [])), (10, (.aload_n 0, 11, 0, 0, 0, [], [])), (11, (.getfield 12, 14, 0, 0, 0, [], [])), (14, (.getfield 120, 17, 0, 0, 0, [], [])), (17, (.aload_n 0, 18, 0, 0, 0, [], [])), (18, (.getfield 32, 21, 0, 0, 0, [], [])), (21, (.iload_n 1, 22, 0, 0, 0, [], [])), (22, (.iastore, 23, 0, 0, 0, [], [])), (23, (.aload_n 0, 24, 0, 0, 0, [], [])), (24, (.dup, 25, 0, 0, 0, [], [])), (25, (.getfield 32, 28, 0, 0, 0, [], [])), (28, (.iconst 1, 29, 0, 1, 0, [], [])), (29, (.iadd, 30, 0, 0, 0, [], [])), (30, (.putfield 32, 33, 0, 0, 0, [], []))],
  [(33, (.return_, 34, 0, 0, 0, [], []))]]
noncomputable abbrev zT_62 : zT := (7, zI_62, 0, 2) -- X7_step
noncomputable def zI_63 : List (List (Nat × zE)) := [[(0, (.aload_n 0, 1, 0, 0, 0, [], [])), (1, (.aload_n 1, 2, 0, 0, 0, [], [])), (2, (.getfield 33, 5, 0, 0, 0, [], [])), (5, (.putfield 33, 8, 0, 0, 0, [], [])), (8, (.aload_n 1, 9, 0, 0, 0, [], [])), (9, (.getfield 9, 12, 0, 0, 0, [], [])), (12, (.aload_n 0, 13, 0, 0, 0, [], [])), (13, (.getfield 9, 16, 0, 0, 0, [], [])), (16, (.invokestatic 37, 19, 0, 0, 0, [], [])), (19, (.aload_n 1, 20, 0, 0, 0, [], [])), (20, (.getfield 15, 23, 0, 0, 0, [], [])), (23, (.aload_n 0, 24, 0, 0, 0, [], [])), (24, (.getfield 15, 27, 0, 0, 0, [], [])), (27, (.invokestatic 37, 30, 0, 0, 0, [], [])), (30, (.aload_n 1, 31, 0, 0, 0, [], [])), (31, (.getfield 18, 34, 0, 0, 0, [], []))],
  [(34, (.aload_n 0, 35, 0, 0, 0, [], [])), (35, (.getfield 18, 38, 0, 0, 0, [], [])), (38, (.invokestatic 37, 41, 0, 0, 0, [], [])), (41, (.aload_n 1, 42, 0, 0, 0, [], [])), (42, (.getfield 21, 45, 0, 0, 0, [], [])), (45, (.aload_n 0, 46, 0, 0, 0, [], [])), (46, (.getfield 21, 49, 0, 0, 0, [], [])), (49, (.invokestatic 37, 52, 0, 0, 0, [], [])), (52, (.aload_n 1, 53, 0, 0, 0, [], [])), (53, (.getfield 24, 56, 0, 0, 0, [], [])), (56, (.aload_n 0, 57, 0, 0, 0, [], [])), (57, (.getfield 24, 60, 0, 0, 0, [], [])), (60, (.invokestatic 37, 63, 0, 0, 0, [], [])), (63, (.return_, 64, 0, 0, 0, [], []))]]
noncomputable abbrev zT_63 : zT := (8, zI_63, 0, 2) -- X8_copyFrom
noncomputable def zI_64 : List (List (Nat × zE)) := [[(0, (.aload_n 0, 1, 0, 0, 0, [], [])), (1, (.getfield 27, 4, 0, 0, 0, [], [])), (4, (.iconst 0, 5, 0, 0, 0, [], [])), (5, (.iload_n 1, 6, 0, 0, 0, [], [])), (6, (.iastore, 7, 1, 0, 0, [], [])), (7, (.aload_n 0, 8, 0, 0, 0, [], [])), (8, (.getfield 27, 11, 0, 0, 0, [], [])), (11, (.iconst 1, 12, 0, 1, 0, [], [])), (12, (.iload_n 2, 13, 0, 0, 0, [], [])), (13, (.iastore, 14, 2, 0, 0, [], [])), (14, (.aload_n 0, 15, 0, 0, 0, [], [])), (15, (.getfield 27, 18, 0, 0, 0, [], [])), (18, (.iconst 2, 19, 0, 2, 0, [], [])), (19, (.iload_n 3, 20, 0, 0, 0, [], [])), (20, (.iastore, 21, 3, 0, 0, [], [])), (21, (.aload_n 0, 22, 0, 0, 0, [], [])), (22, (.getfield 27, 25, 0, 0, 0, [], [])), (25, (.iconst 3, 26, 0, 3, 0, [], [])), (26, (.iload 4, 28, 0, 0, 0, [], [])), (28, (.iastore, 29, 4, 0, 0, [], [])), (29, (.aload_n 0, 30, 0, 0, 0, [], [])), (30, (.getfield 27, 33, 0, 0, 0, [], []))],
  [(33, (.iconst 4, 34, 0, 4, 0, [], [])), (34, (.iload 5, 36, 0, 0, 0, [], [])), (36, (.iastore, 37, 5, 0, 0, [], [])), (37, (.return_, 38, 0, 0, 0, [], []))]]
noncomputable abbrev zT_64 : zT := (8, zI_64, 0, 6) -- X8_setFacts
noncomputable def zI_65 : List (List (Nat × zE)) := [[(0, (.aload_n 0, 1, 0, 0, 0, [], [])), (1, (.getfield 27, 4, 0, 0, 0, [], [])), (4, (.iconst 3, 5, 0, 3, 0, [], [])), (5, (.iaload, 6, 4, 0, 0, [], [])), (6, (.istore_n 2, 7, 0, 0, 0, [], [])), (7, (.iconst 0, 8, 0, 0, 0, [], [])), (8, (.istore_n 3, 9, 0, 0, 0, [], [])), (9, (.iconst 0, 10, 0, 0, 0, [], [])), (10, (.istore 4, 12, 0, 0, 0, [], [])), (12, (.iload 4, 14, 0, 0, 0, [], [true, true, true, true, true])), (14, (.aload_n 0, 15, 0, 0, 0, [], [])), (15, (.getfield 33, 18, 0, 0, 0, [], [])), (18, (.if_icmp .ge 54, 21, 72, 0, 0, [], [])), (21, (.iload_n 1, 22, 0, 0, 0, [], [])), (22, (.aload_n 0, 23, 0, 0, 0, [], [])), (23, (.getfield 9, 26, 0, 0, 0, [], [])), (26, (.iload 4, 28, 0, 0, 0, [], [])), (28, (.iaload, 29, 0, 0, 0, [], [])), (29, (.invokestatic 41, 32, 0, 0, 0, [], []))],
  [(32, (.ifCond .eq 26, 35, 58, 0, 0, [], [])), (35, (.aload_n 0, 36, 0, 0, 0, [], [])), (36, (.iload_n 3, 37, 0, 0, 0, [], [])), (37, (.aload_n 0, 38, 0, 0, 0, [], [])), (38, (.getfield 21, 41, 0, 0, 0, [], [])), (41, (.iload 4, 43, 0, 0, 0, [], [])), (43, (.iaload, 44, 0, 0, 0, [], [])), (44, (.invokevirtual 45, 47, 0, 0, 0, [], [])), (47, (.ifCond .eq 11, 50, 58, 0, 0, [], [])), (50, (.aload_n 0, 51, 0, 0, 0, [], [])), (51, (.iload 4, 53, 0, 0, 0, [], [])), (53, (.iload_n 2, 54, 0, 0, 0, [], [])), (54, (.invokevirtual 48, 57, 0, 0, 0, [], [])), (57, (.ireturn, 58, 0, 0, 0, [], [])), (58, (.aload_n 0, 59, 0, 0, 0, [], [])), (59, (.getfield 21, 62, 0, 0, 0, [], [])), (62, (.iload 4, 64, 0, 0, 0, [], []))],
  [(64, (.iaload, 65, 0, 0, 0, [], [])), (65, (.istore_n 3, 66, 0, 0, 0, [], [])), (66, (.iinc 4 1, 69, 0, 1, 0, [], [])), (69, (.goto (-57), 72, 12, 0, 0, [], [])), (72, (.iload_n 2, 73, 0, 0, 0, [], [])), (73, (.ireturn, 74, 0, 0, 0, [], []))]]
noncomputable abbrev zT_65 : zT := (8, zI_65, 1, 5) -- X8_changed
noncomputable def zI_66 : List (List (Nat × zE)) := [[(0, (.aload_n 0, 1, 0, 0, 0, [], [])), (1, (.getfield 15, 4, 0, 0, 0, [], [])), (4, (.iload_n 1, 5, 0, 0, 0, [], [])), (5, (.iaload, 6, 0, 0, 0, [], [])), (6, (.bipush (-16), 8, 0, (-16), 0, [], [])), (8, (.if_icmp .ne 12, 11, 20, 0, 0, [], [])), (11, (.iload_n 2, 12, 0, 0, 0, [], [])), (12, (.aload_n 0, 13, 0, 0, 0, [], [])), (13, (.getfield 18, 16, 0, 0, 0, [], [])), (16, (.iload_n 1, 17, 0, 0, 0, [], [])), (17, (.iaload, 18, 0, 0, 0, [], [])), (18, (.iadd, 19, 0, 0, 0, [], [])), (19, (.ireturn, 20, 0, 0, 0, [], [])), (20, (.aload_n 0, 21, 0, 0, 0, [], [])), (21, (.getfield 15, 24, 0, 0, 0, [], [])), (24, (.iload_n 1, 25, 0, 0, 0, [], [])), (25, (.iaload, 26, 0, 0, 0, [], [])), (26, (.bipush (-17), 28, 0, (-17), 0, [], [])), (28, (.if_icmp .ne 16, 31, 44, 0, 0, [], [])), (31, (.iconst 0, 32, 0, 0, 0, [], []))],
  [(32, (.iload_n 2, 33, 0, 0, 0, [], [])), (33, (.aload_n 0, 34, 0, 0, 0, [], [])), (34, (.getfield 18, 37, 0, 0, 0, [], [])), (37, (.iload_n 1, 38, 0, 0, 0, [], [])), (38, (.iaload, 39, 0, 0, 0, [], [])), (39, (.isub, 40, 0, 0, 0, [], [])), (40, (.invokestatic 52, 43, 0, 0, 0, [], [])), (43, (.ireturn, 44, 0, 0, 0, [], [])), (44, (.iconst 0, 45, 0, 0, 0, [], [])), (45, (.ireturn, 46, 0, 0, 0, [], []))]]
noncomputable abbrev zT_66 : zT := (8, zI_66, 1, 3) -- X8_changedBy
noncomputable def zI_67 : List (List (Nat × zE)) := [[(0, (.iconst 0, 1, 0, 0, 0, [], [])), (1, (.istore_n 3, 2, 0, 0, 0, [], [])), (2, (.iload_n 1, 3, 0, 0, 0, [], [])), (3, (.istore 4, 5, 0, 0, 0, [], [])), (5, (.iload 4, 7, 0, 0, 0, [], [true, false, true, true, true, false])), (7, (.iload_n 2, 8, 0, 0, 0, [], [])), (8, (.if_icmp .ge 137, 11, 145, 0, 0, [], [])), (11, (.aload_n 0, 12, 0, 0, 0, [], [])), (12, (.getfield 24, 15, 0, 0, 0, [], [])), (15, (.iload 4, 17, 0, 0, 0, [], [])), (17, (.iaload, 18, 0, 0, 0, [], [])), (18, (.istore 5, 20, 0, 0, 0, [], [])), (20, (.iload 5, 22, 0, 0, 0, [], [])), (22, (.bipush (-5), 24, 0, (-5), 0, [], [])), (24, (.if_icmp .lt 40, 27, 64, 0, 0, [], [])), (27, (.iload_n 3, 28, 0, 0, 0, [], [])), (28, (.bipush 16, 30, 0, 16, 0, [], [])), (30, (.if_icmp .ge 109, 33, 139, 0, 0, [], []))],
  [(33, (.aload_n 0, 34, 0, 0, 0, [], [])), (34, (.getfield 30, 37, 0, 0, 0, [], [])), (37, (.iload_n 3, 38, 0, 0, 0, [], [])), (38, (.iinc 3 1, 41, 0, 1, 0, [], [])), (41, (.iload 5, 43, 0, 0, 0, [], [])), (43, (.ifCond .lt 8, 46, 51, 0, 0, [], [])), (46, (.iload 5, 48, 0, 0, 0, [], [])), (48, (.goto 12, 51, 60, 0, 0, [], [])), (51, (.aload_n 0, 52, 0, 0, 0, [], [])), (52, (.getfield 27, 55, 0, 0, 0, [], [])), (55, (.iconst (-1), 56, 0, (-1), 0, [], [])), (56, (.iload 5, 58, 0, 0, 0, [], [])), (58, (.isub, 59, 0, 0, 0, [], [])), (59, (.iaload, 60, 0, 0, 0, [], [])), (60, (.iastore, 61, 0, 0, 0, [], [])), (61, (.goto 78, 64, 139, 0, 0, [], []))],
  [(64, (.iload 5, 66, 0, 0, 0, [], [])), (66, (.bipush (-9), 68, 0, (-9), 0, [], [])), (68, (.if_icmp .ne 28, 71, 96, 0, 0, [], [])), (71, (.iload_n 3, 72, 0, 0, 0, [], [])), (72, (.ifCond .le 67, 75, 139, 0, 0, [], [])), (75, (.aload_n 0, 76, 0, 0, 0, [], [])), (76, (.getfield 30, 79, 0, 0, 0, [], [])), (79, (.iload_n 3, 80, 0, 0, 0, [], [])), (80, (.iconst 1, 81, 0, 1, 0, [], [])), (81, (.isub, 82, 0, 0, 0, [], [])), (82, (.iconst 1, 83, 0, 1, 0, [], [])), (83, (.aload_n 0, 84, 0, 0, 0, [], [])), (84, (.getfield 30, 87, 0, 0, 0, [], [])), (87, (.iload_n 3, 88, 0, 0, 0, [], [])), (88, (.iconst 1, 89, 0, 1, 0, [], [])), (89, (.isub, 90, 0, 0, 0, [], [])), (90, (.iaload, 91, 0, 0, 0, [], [])), (91, (.isub, 92, 0, 0, 0, [], [])), (92, (.iastore, 93, 0, 0, 0, [], [])), (93, (.goto 46, 96, 139, 0, 0, [], []))],
  [(96, (.iload_n 3, 97, 0, 0, 0, [], [])), (97, (.iconst 1, 98, 0, 1, 0, [], [])), (98, (.if_icmp .le 41, 101, 139, 0, 0, [], [])), (101, (.iinc 3 (-1), 104, 0, (-1), 0, [], [])), (104, (.aload_n 0, 105, 0, 0, 0, [], [])), (105, (.getfield 30, 108, 0, 0, 0, [], [])), (108, (.iload_n 3, 109, 0, 0, 0, [], [])), (109, (.iconst 1, 110, 0, 1, 0, [], [])), (110, (.isub, 111, 0, 0, 0, [], [])), (111, (.iload 5, 113, 0, 0, 0, [], [])), (113, (.aload_n 0, 114, 0, 0, 0, [], [])), (114, (.getfield 30, 117, 0, 0, 0, [], [])), (117, (.iload_n 3, 118, 0, 0, 0, [], [])), (118, (.iconst 1, 119, 0, 1, 0, [], [])), (119, (.isub, 120, 0, 0, 0, [], [])), (120, (.iaload, 121, 0, 0, 0, [], [])), (121, (.aload_n 0, 122, 0, 0, 0, [], [])), (122, (.getfield 30, 125, 0, 0, 0, [], [])), (125, (.iload_n 3, 126, 0, 0, 0, [], [])), (126, (.iaload, 127, 0, 0, 0, [], [])), (127, (.invokestatic 57, 130, 0, 0, 0, [], []))],
  [(130, (.ifCond .eq 7, 133, 137, 0, 0, [], [])), (133, (.iconst 1, 134, 0, 1, 0, [], [])), (134, (.goto 4, 137, 138, 0, 0, [], [])), (137, (.iconst 0, 138, 0, 0, 0, [], [])), (138, (.iastore, 139, 0, 0, 0, [], [])), (139, (.iinc 4 1, 142, 0, 1, 0, [], [])), (142, (.goto (-137), 145, 5, 0, 0, [], [])), (145, (.iload_n 3, 146, 0, 0, 0, [], [])), (146, (.ifCond .eq 14, 149, 160, 0, 0, [], [])), (149, (.aload_n 0, 150, 0, 0, 0, [], [])), (150, (.getfield 30, 153, 0, 0, 0, [], [])), (153, (.iload_n 3, 154, 0, 0, 0, [], [])), (154, (.iconst 1, 155, 0, 1, 0, [], [])), (155, (.isub, 156, 0, 0, 0, [], [])), (156, (.iaload, 157, 0, 0, 0, [], [])), (157, (.ifCond .eq 7, 160, 164, 0, 0, [], []))],
  [(160, (.iconst 1, 161, 0, 1, 0, [], [])), (161, (.goto 4, 164, 165, 0, 0, [], [])), (164, (.iconst 0, 165, 0, 0, 0, [], [])), (165, (.ireturn, 166, 0, 0, 0, [], []))]]
noncomputable abbrev zT_67 : zT := (8, zI_67, 3, 6) -- X8_isSo
noncomputable def zI_68 : List (List (Nat × zE)) := [[(0, (.iload_n 0, 1, 0, 0, 0, [], [])), (1, (.tableswitch 82 (-10) (-6) #[68, 82, 57, 46, 35], 36, 83, 0, 0, [((-10), 69), ((-9), 83), ((-8), 58), ((-7), 47), ((-6), 36)], []))],
  [(36, (.iload_n 1, 37, 0, 0, 0, [], [])), (37, (.iload_n 2, 38, 0, 0, 0, [], [])), (38, (.if_icmp .ge 7, 41, 45, 0, 0, [], [])), (41, (.iconst 1, 42, 0, 1, 0, [], [])), (42, (.goto 4, 45, 46, 0, 0, [], [])), (45, (.iconst 0, 46, 0, 0, 0, [], [])), (46, (.ireturn, 47, 0, 0, 0, [], [])), (47, (.iload_n 1, 48, 0, 0, 0, [], [])), (48, (.iload_n 2, 49, 0, 0, 0, [], [])), (49, (.if_icmp .ne 7, 52, 56, 0, 0, [], [])), (52, (.iconst 1, 53, 0, 1, 0, [], [])), (53, (.goto 4, 56, 57, 0, 0, [], [])), (56, (.iconst 0, 57, 0, 0, 0, [], [])), (57, (.ireturn, 58, 0, 0, 0, [], [])), (58, (.iload_n 1, 59, 0, 0, 0, [], [])), (59, (.iload_n 2, 60, 0, 0, 0, [], [])), (60, (.if_icmp .le 7, 63, 67, 0, 0, [], [])), (63, (.iconst 1, 64, 0, 1, 0, [], []))],
  [(64, (.goto 4, 67, 68, 0, 0, [], [])), (67, (.iconst 0, 68, 0, 0, 0, [], [])), (68, (.ireturn, 69, 0, 0, 0, [], [])), (69, (.iload_n 1, 70, 0, 0, 0, [], [])), (70, (.ifCond .eq 11, 73, 81, 0, 0, [], [])), (73, (.iload_n 2, 74, 0, 0, 0, [], [])), (74, (.ifCond .eq 7, 77, 81, 0, 0, [], [])), (77, (.iconst 1, 78, 0, 1, 0, [], [])), (78, (.goto 4, 81, 82, 0, 0, [], [])), (81, (.iconst 0, 82, 0, 0, 0, [], [])), (82, (.ireturn, 83, 0, 0, 0, [], [])), (83, (.iload_n 1, 84, 0, 0, 0, [], [])), (84, (.ifCond .ne 7, 87, 91, 0, 0, [], [])), (87, (.iload_n 2, 88, 0, 0, 0, [], [])), (88, (.ifCond .eq 7, 91, 95, 0, 0, [], [])), (91, (.iconst 1, 92, 0, 1, 0, [], [])), (92, (.goto 4, 95, 96, 0, 0, [], [])), (95, (.iconst 0, 96, 0, 0, 0, [], []))],
  [(96, (.ireturn, 97, 0, 0, 0, [], []))]]
noncomputable abbrev zT_68 : zT := (8, zI_68, 3, 3) -- X8_joined
noncomputable def zI_69 : List (List (Nat × zE)) := [[(0, (.aload_n 0, 1, 0, 0, 0, [], [])), (1, (.getfield 21, 4, 0, 0, 0, [], [])), (4, (.aload_n 1, 5, 0, 0, 0, [], [])), (5, (.invokevirtual 25, 8, 0, 0, 0, [], [])), (8, (.aload_n 0, 9, 0, 0, 0, [], [])), (9, (.iconst 0, 10, 0, 0, 0, [], [])), (10, (.putfield 29, 13, 0, 0, 0, [], [])), (13, (.iconst 0, 14, 0, 0, 0, [], [])), (14, (.istore_n 3, 15, 0, 0, 0, [], [])), (15, (.iload_n 3, 16, 0, 0, 0, [], [true, false, true, true])), (16, (.aload_n 0, 17, 0, 0, 0, [], [])), (17, (.getfield 21, 20, 0, 0, 0, [], [])), (20, (.getfield 33, 23, 0, 0, 0, [], [])), (23, (.getfield 37, 26, 0, 0, 0, [], [])), (26, (.if_icmp .ge 62, 29, 88, 0, 0, [], [])), (29, (.iload_n 2, 30, 0, 0, 0, [], [])), (30, (.iload_n 3, 31, 0, 0, 0, [], [])), (31, (.invokestatic 40, 34, 0, 0, 0, [], []))],
  [(34, (.ifCond .eq 48, 37, 82, 0, 0, [], [])), (37, (.aload_n 0, 38, 0, 0, 0, [], [])), (38, (.getfield 29, 41, 0, 0, 0, [], [])), (41, (.iconst 4, 42, 0, 4, 0, [], [])), (42, (.if_icmp .lt 6, 45, 48, 0, 0, [], [])), (45, (.goto 37, 48, 82, 0, 0, [], [])), (48, (.aload_n 0, 49, 0, 0, 0, [], [])), (49, (.getfield 9, 52, 0, 0, 0, [], [])), (52, (.aload_n 0, 53, 0, 0, 0, [], [])), (53, (.getfield 29, 56, 0, 0, 0, [], [])), (56, (.iload_n 3, 57, 0, 0, 0, [], [])), (57, (.iastore, 58, 0, 0, 0, [], [])), (58, (.aload_n 0, 59, 0, 0, 0, [], [])), (59, (.dup, 60, 0, 0, 0, [], [])), (60, (.getfield 29, 63, 0, 0, 0, [], [])), (63, (.iconst 1, 64, 0, 1, 0, [], []))],
  [(64, (.iadd, 65, 0, 0, 0, [], [])), (65, (.putfield 29, 68, 0, 0, 0, [], [])), (68, (.aload_n 0, 69, 0, 0, 0, [], [])), (69, (.getfield 21, 72, 0, 0, 0, [], [])), (72, (.getfield 33, 75, 0, 0, 0, [], [])), (75, (.getfield 44, 78, 0, 0, 0, [], [])), (78, (.iload_n 3, 79, 0, 0, 0, [], [])), (79, (.bipush (-9), 81, 0, (-9), 0, [], [])), (81, (.iastore, 82, 0, 0, 0, [], [])), (82, (.iinc 3 1, 85, 0, 1, 0, [], [])), (85, (.goto (-70), 88, 15, 0, 0, [], [])), (88, (.aload_n 0, 89, 0, 0, 0, [], [])), (89, (.getfield 21, 92, 0, 0, 0, [], [])), (92, (.invokevirtual 45, 95, 0, 0, 0, [], [])), (95, (.aload_n 0, 96, 0, 0, 0, [], []))],
  [(96, (.getfield 21, 99, 0, 0, 0, [], [])), (99, (.invokevirtual 48, 102, 0, 0, 0, [], [])), (102, (.ifCond .ne 15, 105, 117, 0, 0, [], [])), (105, (.aload_n 0, 106, 0, 0, 0, [], [])), (106, (.iconst 0, 107, 0, 0, 0, [], [])), (107, (.invokevirtual 52, 110, 0, 0, 0, [], [])), (110, (.ifCond .eq 7, 113, 117, 0, 0, [], [])), (113, (.iconst 1, 114, 0, 1, 0, [], [])), (114, (.goto 4, 117, 118, 0, 0, [], [])), (117, (.iconst 0, 118, 0, 0, 0, [], [])), (118, (.ireturn, 119, 0, 0, 0, [], []))]]
noncomputable abbrev zT_69 : zT := (9, zI_69, 3, 4) -- X9_finds
noncomputable def zI_70 : List (List (Nat × zE)) := [[(0, (.iload_n 1, 1, 0, 0, 0, [], [])), (1, (.aload_n 0, 2, 0, 0, 0, [], [])), (2, (.getfield 29, 5, 0, 0, 0, [], [])), (5, (.if_icmp .lt 5, 8, 10, 0, 0, [], [])), (8, (.iconst 1, 9, 0, 1, 0, [], [])), (9, (.ireturn, 10, 0, 0, 0, [], [])), (10, (.aload_n 0, 11, 0, 0, 0, [], [])), (11, (.getfield 21, 14, 0, 0, 0, [], [])), (14, (.getfield 33, 17, 0, 0, 0, [], [])), (17, (.getfield 56, 20, 0, 0, 0, [], [])), (20, (.aload_n 0, 21, 0, 0, 0, [], [])), (21, (.getfield 9, 24, 0, 0, 0, [], [])), (24, (.iload_n 1, 25, 0, 0, 0, [], [])), (25, (.iaload, 26, 0, 0, 0, [], [])), (26, (.iaload, 27, 0, 0, 0, [], [])), (27, (.istore_n 2, 28, 0, 0, 0, [], [])), (28, (.iconst 0, 29, 0, 0, 0, [], [])), (29, (.istore_n 3, 30, 0, 0, 0, [], [])), (30, (.iload_n 3, 31, 0, 0, 0, [], [true, true, true, true])), (31, (.aload_n 0, 32, 0, 0, 0, [], []))],
  [(32, (.getfield 21, 35, 0, 0, 0, [], [])), (35, (.getfield 59, 38, 0, 0, 0, [], [])), (38, (.getfield 63, 41, 0, 0, 0, [], [])), (41, (.if_icmp .ge 74, 44, 115, 0, 0, [], [])), (44, (.aload_n 0, 45, 0, 0, 0, [], [])), (45, (.getfield 21, 48, 0, 0, 0, [], [])), (48, (.getfield 59, 51, 0, 0, 0, [], [])), (51, (.iload_n 3, 52, 0, 0, 0, [], [])), (52, (.invokevirtual 66, 55, 0, 0, 0, [], [])), (55, (.ifCond .ne 6, 58, 61, 0, 0, [], [])), (58, (.goto 51, 61, 109, 0, 0, [], [])), (61, (.aload_n 0, 62, 0, 0, 0, [], [])), (62, (.getfield 15, 65, 0, 0, 0, [], []))],
  [(65, (.iload_n 1, 66, 0, 0, 0, [], [])), (66, (.iload_n 3, 67, 0, 0, 0, [], [])), (67, (.iastore, 68, 0, 0, 0, [], [])), (68, (.aload_n 0, 69, 0, 0, 0, [], [])), (69, (.getfield 21, 72, 0, 0, 0, [], [])), (72, (.iload_n 3, 73, 0, 0, 0, [], [])), (73, (.iload_n 2, 74, 0, 0, 0, [], [])), (74, (.invokevirtual 69, 77, 0, 0, 0, [], [])), (77, (.aload_n 0, 78, 0, 0, 0, [], [])), (78, (.getfield 21, 81, 0, 0, 0, [], [])), (81, (.invokevirtual 48, 84, 0, 0, 0, [], [])), (84, (.ifCond .ne 15, 87, 99, 0, 0, [], [])), (87, (.aload_n 0, 88, 0, 0, 0, [], [])), (88, (.iload_n 1, 89, 0, 0, 0, [], [])), (89, (.iconst 1, 90, 0, 1, 0, [], [])), (90, (.iadd, 91, 0, 0, 0, [], [])), (91, (.invokevirtual 52, 94, 0, 0, 0, [], [])), (94, (.ifCond .eq 5, 97, 99, 0, 0, [], []))],
  [(97, (.iconst 1, 98, 0, 1, 0, [], [])), (98, (.ireturn, 99, 0, 0, 0, [], [])), (99, (.aload_n 0, 100, 0, 0, 0, [], [])), (100, (.getfield 21, 103, 0, 0, 0, [], [])), (103, (.iload_n 3, 104, 0, 0, 0, [], [])), (104, (.iload_n 2, 105, 0, 0, 0, [], [])), (105, (.ineg, 106, 0, 0, 0, [], [])), (106, (.invokevirtual 69, 109, 0, 0, 0, [], [])), (109, (.iinc 3 1, 112, 0, 1, 0, [], [])), (112, (.goto (-82), 115, 30, 0, 0, [], [])), (115, (.iconst 0, 116, 0, 0, 0, [], [])), (116, (.ireturn, 117, 0, 0, 0, [], []))]]
noncomputable abbrev zT_70 : zT := (9, zI_70, 3, 4) -- X9_seatsFrom
noncomputable def zI_71 : List (List (Nat × zE)) := [[(0, (.aload_n 0, 1, 0, 0, 0, [], [])), (1, (.getfield 21, 4, 0, 0, 0, [], [])), (4, (.aload_n 1, 5, 0, 0, 0, [], [])), (5, (.invokevirtual 25, 8, 0, 0, 0, [], [])), (8, (.aload_n 0, 9, 0, 0, 0, [], [])), (9, (.getfield 21, 12, 0, 0, 0, [], [])), (12, (.invokevirtual 45, 15, 0, 0, 0, [], [])), (15, (.aload_n 0, 16, 0, 0, 0, [], [])), (16, (.iload_n 2, 17, 0, 0, 0, [], [])), (17, (.iload_n 3, 18, 0, 0, 0, [], [])), (18, (.invokevirtual 73, 21, 0, 0, 0, [], [])), (21, (.ireturn, 22, 0, 0, 0, [], []))]]
noncomputable abbrev zT_71 : zT := (9, zI_71, 1, 4) -- X9_gameValue
noncomputable def zI_72 : List (List (Nat × zE)) := [[(0, (.aload_n 0, 1, 0, 0, 0, [], [])), (1, (.aload_n 1, 2, 0, 0, 0, [], [])), (2, (.iload_n 2, 3, 0, 0, 0, [], [])), (3, (.iload_n 3, 4, 0, 0, 0, [], [])), (4, (.invokevirtual 77, 7, 0, 0, 0, [], [])), (7, (.istore 4, 9, 0, 0, 0, [], [])), (9, (.aload_n 0, 10, 0, 0, 0, [], [])), (10, (.getfield 21, 13, 0, 0, 0, [], [])), (13, (.getfield 33, 16, 0, 0, 0, [], [])), (16, (.iload_n 2, 17, 0, 0, 0, [], [])), (17, (.invokevirtual 81, 20, 0, 0, 0, [], [])), (20, (.istore 5, 22, 0, 0, 0, [], [])), (22, (.iload 5, 24, 0, 0, 0, [], [])), (24, (.bipush (-9), 26, 0, (-9), 0, [], [])), (26, (.if_icmp .ne 6, 29, 32, 0, 0, [], [])), (29, (.bipush (-3), 31, 0, (-3), 0, [], [])), (31, (.ireturn, 32, 0, 0, 0, [], []))],
  [(32, (.iconst 0, 33, 0, 0, 0, [], [])), (33, (.istore 6, 35, 0, 0, 0, [], [])), (35, (.iload 6, 37, 0, 0, 0, [], [true, false, false, true, true, true, true])), (37, (.aload_n 0, 38, 0, 0, 0, [], [])), (38, (.getfield 21, 41, 0, 0, 0, [], [])), (41, (.getfield 59, 44, 0, 0, 0, [], [])), (44, (.getfield 63, 47, 0, 0, 0, [], [])), (47, (.if_icmp .ge 41, 50, 88, 0, 0, [], [])), (50, (.aload_n 0, 51, 0, 0, 0, [], [])), (51, (.getfield 21, 54, 0, 0, 0, [], [])), (54, (.getfield 59, 57, 0, 0, 0, [], [])), (57, (.iload 6, 59, 0, 0, 0, [], [])), (59, (.invokevirtual 66, 62, 0, 0, 0, [], [])), (62, (.ifCond .eq 20, 65, 82, 0, 0, [], []))],
  [(65, (.aload_n 0, 66, 0, 0, 0, [], [])), (66, (.iload 5, 68, 0, 0, 0, [], [])), (68, (.iload 6, 70, 0, 0, 0, [], [])), (70, (.iload_n 3, 71, 0, 0, 0, [], [])), (71, (.invokevirtual 85, 74, 0, 0, 0, [], [])), (74, (.iload 4, 76, 0, 0, 0, [], [])), (76, (.if_icmp .ne 6, 79, 82, 0, 0, [], [])), (79, (.iload 6, 81, 0, 0, 0, [], [])), (81, (.ireturn, 82, 0, 0, 0, [], [])), (82, (.iinc 6 1, 85, 0, 1, 0, [], [])), (85, (.goto (-50), 88, 35, 0, 0, [], [])), (88, (.bipush (-3), 90, 0, (-3), 0, [], [])), (90, (.ireturn, 91, 0, 0, 0, [], []))]]
noncomputable abbrev zT_72 : zT := (9, zI_72, 1, 7) -- X9_firstMove
noncomputable def zI_73 : List (List (Nat × zE)) := [[(0, (.aload_n 0, 1, 0, 0, 0, [], [])), (1, (.getfield 21, 4, 0, 0, 0, [], [])), (4, (.getfield 33, 7, 0, 0, 0, [], [])), (7, (.iload_n 1, 8, 0, 0, 0, [], [])), (8, (.invokevirtual 81, 11, 0, 0, 0, [], [])), (11, (.istore_n 3, 12, 0, 0, 0, [], [])), (12, (.iload_n 2, 13, 0, 0, 0, [], [])), (13, (.ifCond .le 9, 16, 22, 0, 0, [], [])), (16, (.iload_n 3, 17, 0, 0, 0, [], [])), (17, (.bipush (-9), 19, 0, (-9), 0, [], [])), (19, (.if_icmp .ne 5, 22, 24, 0, 0, [], [])), (22, (.iconst 2, 23, 0, 2, 0, [], [])), (23, (.ireturn, 24, 0, 0, 0, [], [])), (24, (.iconst 0, 25, 0, 0, 0, [], [])), (25, (.istore 4, 27, 0, 0, 0, [], [])), (27, (.iconst 1, 28, 0, 1, 0, [], [])), (28, (.iload_n 1, 29, 0, 0, 0, [], [])), (29, (.isub, 30, 0, 0, 0, [], [])), (30, (.istore 5, 32, 0, 0, 0, [], []))],
  [(32, (.iconst 0, 33, 0, 0, 0, [], [])), (33, (.istore 6, 35, 0, 0, 0, [], [])), (35, (.iload 6, 37, 0, 0, 0, [], [true, true, true, true, true, true, true, false])), (37, (.aload_n 0, 38, 0, 0, 0, [], [])), (38, (.getfield 21, 41, 0, 0, 0, [], [])), (41, (.getfield 59, 44, 0, 0, 0, [], [])), (44, (.getfield 63, 47, 0, 0, 0, [], [])), (47, (.if_icmp .ge 58, 50, 105, 0, 0, [], [])), (50, (.iload 5, 52, 0, 0, 0, [], [])), (52, (.iload_n 1, 53, 0, 0, 0, [], [])), (53, (.if_icmp .eq 52, 56, 105, 0, 0, [], [])), (56, (.aload_n 0, 57, 0, 0, 0, [], [])), (57, (.getfield 21, 60, 0, 0, 0, [], [])), (60, (.getfield 59, 63, 0, 0, 0, [], [])), (63, (.iload 6, 65, 0, 0, 0, [], []))],
  [(65, (.invokevirtual 66, 68, 0, 0, 0, [], [])), (68, (.ifCond .ne 6, 71, 74, 0, 0, [], [])), (71, (.goto 28, 74, 99, 0, 0, [], [])), (74, (.iconst 1, 75, 0, 1, 0, [], [])), (75, (.istore 4, 77, 0, 0, 0, [], [])), (77, (.aload_n 0, 78, 0, 0, 0, [], [])), (78, (.iload_n 3, 79, 0, 0, 0, [], [])), (79, (.iload 6, 81, 0, 0, 0, [], [])), (81, (.iload_n 2, 82, 0, 0, 0, [], [])), (82, (.invokevirtual 85, 85, 0, 0, 0, [], [])), (85, (.istore 7, 87, 0, 0, 0, [], [])), (87, (.iload 7, 89, 0, 0, 0, [], [])), (89, (.iconst 1, 90, 0, 1, 0, [], [])), (90, (.iload_n 1, 91, 0, 0, 0, [], [])), (91, (.isub, 92, 0, 0, 0, [], [])), (92, (.if_icmp .eq 7, 95, 99, 0, 0, [], [])), (95, (.iload 7, 97, 0, 0, 0, [], []))],
  [(97, (.istore 5, 99, 0, 0, 0, [], [])), (99, (.iinc 6 1, 102, 0, 1, 0, [], [])), (102, (.goto (-67), 105, 35, 0, 0, [], [])), (105, (.iload 4, 107, 0, 0, 0, [], [])), (107, (.ifCond .eq 8, 110, 115, 0, 0, [], [])), (110, (.iload 5, 112, 0, 0, 0, [], [])), (112, (.goto 4, 115, 116, 0, 0, [], [])), (115, (.iconst 2, 116, 0, 2, 0, [], [])), (116, (.ireturn, 117, 0, 0, 0, [], []))]]
noncomputable abbrev zT_73 : zT := (9, zI_73, 1, 8) -- X9_valueOf
noncomputable def zI_74 : List (List (Nat × zE)) := [[(0, (.aload_n 0, 1, 0, 0, 0, [], [])), (1, (.getfield 21, 4, 0, 0, 0, [], [])), (4, (.getfield 33, 7, 0, 0, 0, [], [])), (7, (.getfield 89, 10, 0, 0, 0, [], [])), (10, (.iload_n 1, 11, 0, 0, 0, [], [])), (11, (.iaload, 12, 0, 0, 0, [], [])), (12, (.istore 4, 14, 0, 0, 0, [], [])), (14, (.aload_n 0, 15, 0, 0, 0, [], [])), (15, (.getfield 21, 18, 0, 0, 0, [], [])), (18, (.getfield 33, 21, 0, 0, 0, [], [])), (21, (.getfield 56, 24, 0, 0, 0, [], [])), (24, (.iload_n 1, 25, 0, 0, 0, [], [])), (25, (.iaload, 26, 0, 0, 0, [], [])), (26, (.istore 5, 28, 0, 0, 0, [], [])), (28, (.aload_n 0, 29, 0, 0, 0, [], [])), (29, (.getfield 21, 32, 0, 0, 0, [], []))],
  [(32, (.getfield 33, 35, 0, 0, 0, [], [])), (35, (.getfield 44, 38, 0, 0, 0, [], [])), (38, (.iload_n 1, 39, 0, 0, 0, [], [])), (39, (.iload_n 2, 40, 0, 0, 0, [], [])), (40, (.iastore, 41, 0, 0, 0, [], [])), (41, (.aload_n 0, 42, 0, 0, 0, [], [])), (42, (.getfield 21, 45, 0, 0, 0, [], [])), (45, (.iload_n 2, 46, 0, 0, 0, [], [])), (46, (.iload 5, 48, 0, 0, 0, [], [])), (48, (.invokevirtual 69, 51, 0, 0, 0, [], [])), (51, (.aload_n 0, 52, 0, 0, 0, [], [])), (52, (.getfield 21, 55, 0, 0, 0, [], [])), (55, (.invokevirtual 48, 58, 0, 0, 0, [], [])), (58, (.ifCond .eq 10, 61, 68, 0, 0, [], [])), (61, (.iconst 1, 62, 0, 1, 0, [], [])), (62, (.iload 4, 64, 0, 0, 0, [], []))],
  [(64, (.isub, 65, 0, 0, 0, [], [])), (65, (.goto 14, 68, 79, 0, 0, [], [])), (68, (.aload_n 0, 69, 0, 0, 0, [], [])), (69, (.iconst 1, 70, 0, 1, 0, [], [])), (70, (.iload 4, 72, 0, 0, 0, [], [])), (72, (.isub, 73, 0, 0, 0, [], [])), (73, (.iload_n 3, 74, 0, 0, 0, [], [])), (74, (.iconst 1, 75, 0, 1, 0, [], [])), (75, (.isub, 76, 0, 0, 0, [], [])), (76, (.invokevirtual 73, 79, 0, 0, 0, [], [])), (79, (.istore 6, 81, 0, 0, 0, [], [true, true, true, false, false, true, false])), (81, (.aload_n 0, 82, 0, 0, 0, [], [])), (82, (.getfield 21, 85, 0, 0, 0, [], [])), (85, (.iload_n 2, 86, 0, 0, 0, [], [])), (86, (.iload 5, 88, 0, 0, 0, [], [])), (88, (.ineg, 89, 0, 0, 0, [], [])), (89, (.invokevirtual 69, 92, 0, 0, 0, [], [])), (92, (.aload_n 0, 93, 0, 0, 0, [], [])), (93, (.getfield 21, 96, 0, 0, 0, [], []))],
  [(96, (.getfield 33, 99, 0, 0, 0, [], [])), (99, (.getfield 44, 102, 0, 0, 0, [], [])), (102, (.iload_n 1, 103, 0, 0, 0, [], [])), (103, (.bipush (-9), 105, 0, (-9), 0, [], [])), (105, (.iastore, 106, 0, 0, 0, [], [])), (106, (.iload 6, 108, 0, 0, 0, [], [])), (108, (.ireturn, 109, 0, 0, 0, [], []))]]
noncomputable abbrev zT_74 : zT := (9, zI_74, 1, 7) -- X9_valueBehind
noncomputable def zI_75 : List (List (Nat × zE)) := [[(0, (.iconst 0, 1, 0, 0, 0, [], [])), (1, (.istore 4, 3, 0, 0, 0, [], [])), (3, (.iload 4, 5, 0, 0, 0, [], [true, true, false, true, true])), (5, (.iload_n 3, 6, 0, 0, 0, [], [])), (6, (.if_icmp .ge 50, 9, 56, 0, 0, [], [])), (9, (.aload_n 0, 10, 0, 0, 0, [], [])), (10, (.getfield 15, 13, 0, 0, 0, [], [])), (13, (.sipush 200, 16, 0, 200, 0, [], [])), (16, (.if_icmp .ge 40, 19, 56, 0, 0, [], [])), (19, (.aload_n 0, 20, 0, 0, 0, [], [])), (20, (.getfield 9, 23, 0, 0, 0, [], [])), (23, (.aload_n 0, 24, 0, 0, 0, [], [])), (24, (.getfield 15, 27, 0, 0, 0, [], [])), (27, (.lload_n 1, 28, 0, 0, 0, [], [])), (28, (.bipush 8, 30, 0, 8, 0, [], [])), (30, (.iload 4, 32, 0, 0, 0, [], []))],
  [(32, (.imul, 33, 0, 0, 0, [], [])), (33, (.lushr, 34, 0, 0, 0, [], [])), (34, (.l2i, 35, 0, 0, 0, [], [])), (35, (.sipush 255, 38, 0, 255, 0, [], [])), (38, (.iand, 39, 0, 0, 0, [], [])), (39, (.iastore, 40, 0, 0, 0, [], [])), (40, (.aload_n 0, 41, 0, 0, 0, [], [])), (41, (.dup, 42, 0, 0, 0, [], [])), (42, (.getfield 15, 45, 0, 0, 0, [], [])), (45, (.iconst 1, 46, 0, 1, 0, [], [])), (46, (.iadd, 47, 0, 0, 0, [], [])), (47, (.putfield 15, 50, 0, 0, 0, [], [])), (50, (.iinc 4 1, 53, 0, 1, 0, [], [])), (53, (.goto (-50), 56, 3, 0, 0, [], [])), (56, (.return_, 57, 0, 0, 0, [], []))]]
noncomputable abbrev zT_75 : zT := (10, zI_75, 0, 5) -- X10_append
noncomputable def zI_76 : List (List (Nat × zE)) := [[(0, (.aload_n 0, 1, 0, 0, 0, [], [])), (1, (.getfield 9, 4, 0, 0, 0, [], [])), (4, (.iload_n 1, 5, 0, 0, 0, [], [])), (5, (.iaload, 6, 0, 0, 0, [], [])), (6, (.bipush 32, 8, 0, 32, 0, [], [])), (8, (.if_icmp .ne 7, 11, 15, 0, 0, [], [])), (11, (.iconst 1, 12, 0, 1, 0, [], [])), (12, (.goto 4, 15, 16, 0, 0, [], [])), (15, (.iconst 0, 16, 0, 0, 0, [], [])), (16, (.ireturn, 17, 0, 0, 0, [], []))]]
noncomputable abbrev zT_76 : zT := (10, zI_76, 3, 2) -- X10_isBlank
noncomputable def zI_77 : List (List (Nat × zE)) := [[(0, (.aload_n 0, 1, 0, 0, 0, [], [])), (1, (.getfield 9, 4, 0, 0, 0, [], [])), (4, (.iload_n 1, 5, 0, 0, 0, [], [])), (5, (.iaload, 6, 0, 0, 0, [], [])), (6, (.invokestatic 19, 9, 0, 0, 0, [], [])), (9, (.istore_n 2, 10, 0, 0, 0, [], [])), (10, (.iload_n 2, 11, 0, 0, 0, [], [])), (11, (.ifCond .ne 19, 14, 30, 0, 0, [], [])), (14, (.aload_n 0, 15, 0, 0, 0, [], [])), (15, (.getfield 9, 18, 0, 0, 0, [], [])), (18, (.iload_n 1, 19, 0, 0, 0, [], [])), (19, (.iaload, 20, 0, 0, 0, [], [])), (20, (.invokestatic 23, 23, 0, 0, 0, [], [])), (23, (.ifCond .ne 7, 26, 30, 0, 0, [], [])), (26, (.iload_n 1, 27, 0, 0, 0, [], [])), (27, (.iconst 1, 28, 0, 1, 0, [], [])), (28, (.iadd, 29, 0, 0, 0, [], [])), (29, (.ireturn, 30, 0, 0, 0, [], [])), (30, (.iload_n 1, 31, 0, 0, 0, [], [])), (31, (.iconst 1, 32, 0, 1, 0, [], []))],
  [(32, (.iadd, 33, 0, 0, 0, [], [])), (33, (.istore_n 3, 34, 0, 0, 0, [], [])), (34, (.iload_n 3, 35, 0, 0, 0, [], [true, false, true, true])), (35, (.aload_n 0, 36, 0, 0, 0, [], [])), (36, (.getfield 15, 39, 0, 0, 0, [], [])), (39, (.if_icmp .ge 42, 42, 81, 0, 0, [], [])), (42, (.iload_n 2, 43, 0, 0, 0, [], [])), (43, (.ifCond .eq 18, 46, 61, 0, 0, [], [])), (46, (.aload_n 0, 47, 0, 0, 0, [], [])), (47, (.getfield 9, 50, 0, 0, 0, [], [])), (50, (.iload_n 3, 51, 0, 0, 0, [], [])), (51, (.iaload, 52, 0, 0, 0, [], [])), (52, (.invokestatic 19, 55, 0, 0, 0, [], [])), (55, (.ifCond .ne 20, 58, 75, 0, 0, [], [])), (58, (.goto 15, 61, 73, 0, 0, [], [])), (61, (.aload_n 0, 62, 0, 0, 0, [], [])), (62, (.getfield 9, 65, 0, 0, 0, [], []))],
  [(65, (.iload_n 3, 66, 0, 0, 0, [], [])), (66, (.iaload, 67, 0, 0, 0, [], [])), (67, (.invokestatic 23, 70, 0, 0, 0, [], [])), (70, (.ifCond .ne 5, 73, 75, 0, 0, [], [])), (73, (.iload_n 3, 74, 0, 0, 0, [], [])), (74, (.ireturn, 75, 0, 0, 0, [], [])), (75, (.iinc 3 1, 78, 0, 1, 0, [], [])), (78, (.goto (-44), 81, 34, 0, 0, [], [])), (81, (.aload_n 0, 82, 0, 0, 0, [], [])), (82, (.getfield 15, 85, 0, 0, 0, [], [])), (85, (.ireturn, 86, 0, 0, 0, [], []))]]
noncomputable abbrev zT_77 : zT := (10, zI_77, 1, 4) -- X10_endOfWord
noncomputable def zI_78 : List (List (Nat × zE)) := [[(0, (.aload_n 0, 1, 0, 0, 0, [], [])), (1, (.getfield 9, 4, 0, 0, 0, [], [])), (4, (.iload_n 1, 5, 0, 0, 0, [], [])), (5, (.iaload, 6, 0, 0, 0, [], [])), (6, (.invokestatic 19, 9, 0, 0, 0, [], [])), (9, (.ifCond .eq 10, 12, 19, 0, 0, [], [])), (12, (.aload_n 0, 13, 0, 0, 0, [], [])), (13, (.iload_n 1, 14, 0, 0, 0, [], [])), (14, (.iload_n 2, 15, 0, 0, 0, [], [])), (15, (.invokevirtual 26, 18, 0, 0, 0, [], [])), (18, (.ireturn, 19, 0, 0, 0, [], [])), (19, (.aload_n 0, 20, 0, 0, 0, [], [])), (20, (.getfield 9, 23, 0, 0, 0, [], [])), (23, (.iload_n 1, 24, 0, 0, 0, [], [])), (24, (.iaload, 25, 0, 0, 0, [], [])), (25, (.invokestatic 23, 28, 0, 0, 0, [], [])), (28, (.ifCond .eq 10, 31, 38, 0, 0, [], [])), (31, (.aload_n 0, 32, 0, 0, 0, [], []))],
  [(32, (.iload_n 1, 33, 0, 0, 0, [], [])), (33, (.iload_n 2, 34, 0, 0, 0, [], [])), (34, (.invokevirtual 30, 37, 0, 0, 0, [], [])), (37, (.ireturn, 38, 0, 0, 0, [], [])), (38, (.aload_n 0, 39, 0, 0, 0, [], [])), (39, (.getfield 9, 42, 0, 0, 0, [], [])), (42, (.iload_n 1, 43, 0, 0, 0, [], [])), (43, (.iaload, 44, 0, 0, 0, [], [])), (44, (.lookupswitch 78 #[(40, 69), (41, 72), (59, 75), (60, 60), (61, 63), (62, 66)], 104, 122, 0, 0, [(40, 113), (41, 116), (59, 119), (60, 104), (61, 107), (62, 110)], []))],
  [],
  [(104, (.bipush (-6), 106, 0, (-6), 0, [], [])), (106, (.ireturn, 107, 0, 0, 0, [], [])), (107, (.bipush (-7), 109, 0, (-7), 0, [], [])), (109, (.ireturn, 110, 0, 0, 0, [], [])), (110, (.bipush (-8), 112, 0, (-8), 0, [], [])), (112, (.ireturn, 113, 0, 0, 0, [], [])), (113, (.bipush (-12), 115, 0, (-12), 0, [], [])), (115, (.ireturn, 116, 0, 0, 0, [], [])), (116, (.bipush (-13), 118, 0, (-13), 0, [], [])), (118, (.ireturn, 119, 0, 0, 0, [], [])), (119, (.bipush (-14), 121, 0, (-14), 0, [], [])), (121, (.ireturn, 122, 0, 0, 0, [], [])), (122, (.bipush (-30), 124, 0, (-30), 0, [], [])), (124, (.ireturn, 125, 0, 0, 0, [], []))]]
noncomputable abbrev zT_78 : zT := (10, zI_78, 1, 3) -- X10_word
noncomputable def zI_79 : List (List (Nat × zE)) := [[(0, (.iload_n 2, 1, 0, 0, 0, [], [])), (1, (.iload_n 1, 2, 0, 0, 0, [], [])), (2, (.isub, 3, 0, 0, 0, [], [])), (3, (.iconst 4, 4, 0, 4, 0, [], [])), (4, (.if_icmp .le 6, 7, 10, 0, 0, [], [])), (7, (.bipush (-30), 9, 0, (-30), 0, [], [])), (9, (.ireturn, 10, 0, 0, 0, [], [])), (10, (.iconst 0, 11, 0, 0, 0, [], [])), (11, (.istore_n 3, 12, 0, 0, 0, [], [])), (12, (.iload_n 1, 13, 0, 0, 0, [], [])), (13, (.istore 4, 15, 0, 0, 0, [], [])), (15, (.iload 4, 17, 0, 0, 0, [], [true, false, true, true, true])), (17, (.iload_n 2, 18, 0, 0, 0, [], [])), (18, (.if_icmp .ge 25, 21, 43, 0, 0, [], [])), (21, (.iload_n 3, 22, 0, 0, 0, [], [])), (22, (.bipush 10, 24, 0, 10, 0, [], [])), (24, (.imul, 25, 0, 0, 0, [], [])), (25, (.aload_n 0, 26, 0, 0, 0, [], [])), (26, (.getfield 9, 29, 0, 0, 0, [], [])), (29, (.iload 4, 31, 0, 0, 0, [], [])), (31, (.iaload, 32, 0, 0, 0, [], []))],
  [(32, (.bipush 48, 34, 0, 48, 0, [], [])), (34, (.isub, 35, 0, 0, 0, [], [])), (35, (.iadd, 36, 0, 0, 0, [], [])), (36, (.istore_n 3, 37, 0, 0, 0, [], [])), (37, (.iinc 4 1, 40, 0, 1, 0, [], [])), (40, (.goto (-25), 43, 15, 0, 0, [], [])), (43, (.iload_n 3, 44, 0, 0, 0, [], [])), (44, (.ireturn, 45, 0, 0, 0, [], []))]]
noncomputable abbrev zT_79 : zT := (10, zI_79, 1, 5) -- X10_numberWord
noncomputable def zI_80 : List (List (Nat × zE)) := [[(0, (.aload_n 0, 1, 0, 0, 0, [], [])), (1, (.ldc 33, 3, 0, 0, 0, [], [])), (3, (.iload_n 1, 4, 0, 0, 0, [], [])), (4, (.iload_n 2, 5, 0, 0, 0, [], [])), (5, (.invokevirtual 35, 8, 0, 0, 0, [], [])), (8, (.ifCond .eq 6, 11, 14, 0, 0, [], [])), (11, (.bipush (-20), 13, 0, (-20), 0, [], [])), (13, (.ireturn, 14, 0, 0, 0, [], [])), (14, (.aload_n 0, 15, 0, 0, 0, [], [])), (15, (.ldc 39, 17, 0, 0, 0, [], [])), (17, (.iload_n 1, 18, 0, 0, 0, [], [])), (18, (.iload_n 2, 19, 0, 0, 0, [], [])), (19, (.invokevirtual 35, 22, 0, 0, 0, [], [])), (22, (.ifCond .eq 6, 25, 28, 0, 0, [], [])), (25, (.bipush (-21), 27, 0, (-21), 0, [], [])), (27, (.ireturn, 28, 0, 0, 0, [], [])), (28, (.aload_n 0, 29, 0, 0, 0, [], [])), (29, (.ldc 41, 31, 0, 0, 0, [], [])), (31, (.iload_n 1, 32, 0, 0, 0, [], []))],
  [(32, (.iload_n 2, 33, 0, 0, 0, [], [])), (33, (.invokevirtual 35, 36, 0, 0, 0, [], [])), (36, (.ifCond .eq 6, 39, 42, 0, 0, [], [])), (39, (.bipush (-22), 41, 0, (-22), 0, [], [])), (41, (.ireturn, 42, 0, 0, 0, [], [])), (42, (.aload_n 0, 43, 0, 0, 0, [], [])), (43, (.ldc 43, 45, 0, 0, 0, [], [])), (45, (.iload_n 1, 46, 0, 0, 0, [], [])), (46, (.iload_n 2, 47, 0, 0, 0, [], [])), (47, (.invokevirtual 35, 50, 0, 0, 0, [], [])), (50, (.ifCond .eq 6, 53, 56, 0, 0, [], [])), (53, (.bipush (-23), 55, 0, (-23), 0, [], [])), (55, (.ireturn, 56, 0, 0, 0, [], [])), (56, (.aload_n 0, 57, 0, 0, 0, [], [])), (57, (.ldc 45, 59, 0, 0, 0, [], [])), (59, (.iload_n 1, 60, 0, 0, 0, [], [])), (60, (.iload_n 2, 61, 0, 0, 0, [], [])), (61, (.invokevirtual 35, 64, 0, 0, 0, [], []))],
  [(64, (.ifCond .eq 6, 67, 70, 0, 0, [], [])), (67, (.bipush (-24), 69, 0, (-24), 0, [], [])), (69, (.ireturn, 70, 0, 0, 0, [], [])), (70, (.aload_n 0, 71, 0, 0, 0, [], [])), (71, (.ldc 47, 73, 0, 0, 0, [], [])), (73, (.iload_n 1, 74, 0, 0, 0, [], [])), (74, (.iload_n 2, 75, 0, 0, 0, [], [])), (75, (.invokevirtual 35, 78, 0, 0, 0, [], [])), (78, (.ifCond .eq 6, 81, 84, 0, 0, [], [])), (81, (.bipush (-25), 83, 0, (-25), 0, [], [])), (83, (.ireturn, 84, 0, 0, 0, [], [])), (84, (.aload_n 0, 85, 0, 0, 0, [], [])), (85, (.ldc 49, 87, 0, 0, 0, [], [])), (87, (.iload_n 1, 88, 0, 0, 0, [], [])), (88, (.iload_n 2, 89, 0, 0, 0, [], [])), (89, (.invokevirtual 35, 92, 0, 0, 0, [], [])), (92, (.ifCond .eq 6, 95, 98, 0, 0, [], [])), (95, (.bipush (-16), 97, 0, (-16), 0, [], []))],
  [(97, (.ireturn, 98, 0, 0, 0, [], [])), (98, (.aload_n 0, 99, 0, 0, 0, [], [])), (99, (.ldc 51, 101, 0, 0, 0, [], [])), (101, (.iload_n 1, 102, 0, 0, 0, [], [])), (102, (.iload_n 2, 103, 0, 0, 0, [], [])), (103, (.invokevirtual 35, 106, 0, 0, 0, [], [])), (106, (.ifCond .eq 6, 109, 112, 0, 0, [], [])), (109, (.bipush (-17), 111, 0, (-17), 0, [], [])), (111, (.ireturn, 112, 0, 0, 0, [], [])), (112, (.aload_n 0, 113, 0, 0, 0, [], [])), (113, (.ldc 53, 115, 0, 0, 0, [], [])), (115, (.iload_n 1, 116, 0, 0, 0, [], [])), (116, (.iload_n 2, 117, 0, 0, 0, [], [])), (117, (.invokevirtual 35, 120, 0, 0, 0, [], [])), (120, (.ifCond .eq 6, 123, 126, 0, 0, [], [])), (123, (.bipush (-18), 125, 0, (-18), 0, [], [])), (125, (.ireturn, 126, 0, 0, 0, [], [])), (126, (.aload_n 0, 127, 0, 0, 0, [], [])), (127, (.ldc 55, 129, 0, 0, 0, [], []))],
  [(129, (.iload_n 1, 130, 0, 0, 0, [], [])), (130, (.iload_n 2, 131, 0, 0, 0, [], [])), (131, (.invokevirtual 35, 134, 0, 0, 0, [], [])), (134, (.ifCond .eq 6, 137, 140, 0, 0, [], [])), (137, (.bipush (-15), 139, 0, (-15), 0, [], [])), (139, (.ireturn, 140, 0, 0, 0, [], [])), (140, (.aload_n 0, 141, 0, 0, 0, [], [])), (141, (.ldc 57, 143, 0, 0, 0, [], [])), (143, (.iload_n 1, 144, 0, 0, 0, [], [])), (144, (.iload_n 2, 145, 0, 0, 0, [], [])), (145, (.invokevirtual 35, 148, 0, 0, 0, [], [])), (148, (.ifCond .eq 6, 151, 154, 0, 0, [], [])), (151, (.bipush (-9), 153, 0, (-9), 0, [], [])), (153, (.ireturn, 154, 0, 0, 0, [], [])), (154, (.aload_n 0, 155, 0, 0, 0, [], [])), (155, (.ldc 59, 157, 0, 0, 0, [], [])), (157, (.iload_n 1, 158, 0, 0, 0, [], [])), (158, (.iload_n 2, 159, 0, 0, 0, [], [])), (159, (.invokevirtual 35, 162, 0, 0, 0, [], []))],
  [(162, (.ifCond .eq 6, 165, 168, 0, 0, [], [])), (165, (.bipush (-10), 167, 0, (-10), 0, [], [])), (167, (.ireturn, 168, 0, 0, 0, [], [])), (168, (.aload_n 0, 169, 0, 0, 0, [], [])), (169, (.ldc 61, 171, 0, 0, 0, [], [])), (171, (.iload_n 1, 172, 0, 0, 0, [], [])), (172, (.iload_n 2, 173, 0, 0, 0, [], [])), (173, (.invokevirtual 35, 176, 0, 0, 0, [], [])), (176, (.ifCond .eq 6, 179, 182, 0, 0, [], [])), (179, (.bipush (-11), 181, 0, (-11), 0, [], [])), (181, (.ireturn, 182, 0, 0, 0, [], [])), (182, (.aload_n 0, 183, 0, 0, 0, [], [])), (183, (.ldc 63, 185, 0, 0, 0, [], [])), (185, (.iload_n 1, 186, 0, 0, 0, [], [])), (186, (.iload_n 2, 187, 0, 0, 0, [], [])), (187, (.invokevirtual 35, 190, 0, 0, 0, [], [])), (190, (.ifCond .eq 5, 193, 195, 0, 0, [], []))],
  [(193, (.iconst (-1), 194, 0, (-1), 0, [], [])), (194, (.ireturn, 195, 0, 0, 0, [], [])), (195, (.aload_n 0, 196, 0, 0, 0, [], [])), (196, (.ldc 65, 198, 0, 0, 0, [], [])), (198, (.iload_n 1, 199, 0, 0, 0, [], [])), (199, (.iload_n 2, 200, 0, 0, 0, [], [])), (200, (.invokevirtual 35, 203, 0, 0, 0, [], [])), (203, (.ifCond .eq 6, 206, 209, 0, 0, [], [])), (206, (.bipush (-2), 208, 0, (-2), 0, [], [])), (208, (.ireturn, 209, 0, 0, 0, [], [])), (209, (.aload_n 0, 210, 0, 0, 0, [], [])), (210, (.ldc 67, 212, 0, 0, 0, [], [])), (212, (.iload_n 1, 213, 0, 0, 0, [], [])), (213, (.iload_n 2, 214, 0, 0, 0, [], [])), (214, (.invokevirtual 35, 217, 0, 0, 0, [], [])), (217, (.ifCond .eq 6, 220, 223, 0, 0, [], [])), (220, (.bipush (-3), 222, 0, (-3), 0, [], [])), (222, (.ireturn, 223, 0, 0, 0, [], [])), (223, (.aload_n 0, 224, 0, 0, 0, [], []))],
  [(224, (.ldc 69, 226, 0, 0, 0, [], [])), (226, (.iload_n 1, 227, 0, 0, 0, [], [])), (227, (.iload_n 2, 228, 0, 0, 0, [], [])), (228, (.invokevirtual 35, 231, 0, 0, 0, [], [])), (231, (.ifCond .eq 6, 234, 237, 0, 0, [], [])), (234, (.bipush (-4), 236, 0, (-4), 0, [], [])), (236, (.ireturn, 237, 0, 0, 0, [], [])), (237, (.aload_n 0, 238, 0, 0, 0, [], [])), (238, (.ldc 71, 240, 0, 0, 0, [], [])), (240, (.iload_n 1, 241, 0, 0, 0, [], [])), (241, (.iload_n 2, 242, 0, 0, 0, [], [])), (242, (.invokevirtual 35, 245, 0, 0, 0, [], [])), (245, (.ifCond .eq 6, 248, 251, 0, 0, [], [])), (248, (.bipush (-5), 250, 0, (-5), 0, [], [])), (250, (.ireturn, 251, 0, 0, 0, [], [])), (251, (.bipush (-30), 253, 0, (-30), 0, [], [])), (253, (.ireturn, 254, 0, 0, 0, [], []))]]
noncomputable abbrev zT_80 : zT := (10, zI_80, 1, 3) -- X10_nameWord
noncomputable def zI_81 : List (List (Nat × zE)) := [[(0, (.iload_n 3, 1, 0, 0, 0, [], [])), (1, (.iload_n 2, 2, 0, 0, 0, [], [])), (2, (.isub, 3, 0, 0, 0, [], [])), (3, (.aload_n 1, 4, 0, 0, 0, [], [])), (4, (.invokevirtual 73, 7, 0, 0, 0, [], [])), (7, (.if_icmp .eq 5, 10, 12, 0, 0, [], [])), (10, (.iconst 0, 11, 0, 0, 0, [], [])), (11, (.ireturn, 12, 0, 0, 0, [], [])), (12, (.iload_n 2, 13, 0, 0, 0, [], [])), (13, (.istore 4, 15, 0, 0, 0, [], [])), (15, (.iload 4, 17, 0, 0, 0, [], [true, true, true, true, true])), (17, (.iload_n 3, 18, 0, 0, 0, [], [])), (18, (.if_icmp .ge 29, 21, 47, 0, 0, [], [])), (21, (.aload_n 0, 22, 0, 0, 0, [], [])), (22, (.getfield 9, 25, 0, 0, 0, [], [])), (25, (.iload 4, 27, 0, 0, 0, [], [])), (27, (.iaload, 28, 0, 0, 0, [], [])), (28, (.aload_n 1, 29, 0, 0, 0, [], [])), (29, (.iload 4, 31, 0, 0, 0, [], [])), (31, (.iload_n 2, 32, 0, 0, 0, [], []))],
  [(32, (.isub, 33, 0, 0, 0, [], [])), (33, (.invokevirtual 79, 36, 0, 0, 0, [], [])), (36, (.if_icmp .eq 5, 39, 41, 0, 0, [], [])), (39, (.iconst 0, 40, 0, 0, 0, [], [])), (40, (.ireturn, 41, 0, 0, 0, [], [])), (41, (.iinc 4 1, 44, 0, 1, 0, [], [])), (44, (.goto (-29), 47, 15, 0, 0, [], [])), (47, (.iconst 1, 48, 0, 1, 0, [], [])), (48, (.ireturn, 49, 0, 0, 0, [], []))]]
noncomputable abbrev zT_81 : zT := (10, zI_81, 3, 5) -- X10_isName
noncomputable def zI_82 : List (List (Nat × zE)) := [[(0, (.iload_n 0, 1, 0, 0, 0, [], [])), (1, (.bipush 97, 3, 0, 97, 0, [], [])), (3, (.if_icmp .lt 13, 6, 16, 0, 0, [], [])), (6, (.iload_n 0, 7, 0, 0, 0, [], [])), (7, (.bipush 122, 9, 0, 122, 0, [], [])), (9, (.if_icmp .gt 7, 12, 16, 0, 0, [], [])), (12, (.iconst 1, 13, 0, 1, 0, [], [])), (13, (.goto 4, 16, 17, 0, 0, [], [])), (16, (.iconst 0, 17, 0, 0, 0, [], [])), (17, (.ireturn, 18, 0, 0, 0, [], []))]]
noncomputable abbrev zT_82 : zT := (10, zI_82, 3, 1) -- X10_isLetter
noncomputable def zI_83 : List (List (Nat × zE)) := [[(0, (.iload_n 0, 1, 0, 0, 0, [], [])), (1, (.bipush 48, 3, 0, 48, 0, [], [])), (3, (.if_icmp .lt 13, 6, 16, 0, 0, [], [])), (6, (.iload_n 0, 7, 0, 0, 0, [], [])), (7, (.bipush 57, 9, 0, 57, 0, [], [])), (9, (.if_icmp .gt 7, 12, 16, 0, 0, [], [])), (12, (.iconst 1, 13, 0, 1, 0, [], [])), (13, (.goto 4, 16, 17, 0, 0, [], [])), (16, (.iconst 0, 17, 0, 0, 0, [], [])), (17, (.ireturn, 18, 0, 0, 0, [], []))]]
noncomputable abbrev zT_83 : zT := (10, zI_83, 3, 1) -- X10_isDigit
noncomputable def zI_84 : List (List (Nat × zE)) := [[(0, (.iload_n 2, 1, 0, 0, 0, [], [])), (1, (.iconst (-1), 2, 0, (-1), 0, [], [])), (2, (.if_icmp .ne 7, 5, 9, 0, 0, [], [])), (5, (.iconst 1, 6, 0, 1, 0, [], [])), (6, (.goto 4, 9, 10, 0, 0, [], [])), (9, (.iconst 0, 10, 0, 0, 0, [], [])), (10, (.istore 5, 12, 0, 0, 0, [], [true, true, true, true, true, false])), (12, (.iload_n 1, 13, 0, 0, 0, [], [])), (13, (.invokestatic 64, 16, 0, 0, 0, [], [])), (16, (.ifCond .eq 22, 19, 38, 0, 0, [], [])), (19, (.iload 5, 21, 0, 0, 0, [], [])), (21, (.ifCond .ne 19, 24, 40, 0, 0, [], [])), (24, (.aload_n 0, 25, 0, 0, 0, [], [])), (25, (.getfield 10, 28, 0, 0, 0, [], [])), (28, (.getfield 68, 31, 0, 0, 0, [], [])), (31, (.iload_n 2, 32, 0, 0, 0, [], []))],
  [(32, (.invokevirtual 72, 35, 0, 0, 0, [], [])), (35, (.ifCond .ne 5, 38, 40, 0, 0, [], [])), (38, (.iconst (-1), 39, 0, (-1), 0, [], [])), (39, (.ireturn, 40, 0, 0, 0, [], [])), (40, (.iload_n 3, 41, 0, 0, 0, [], [true, true, true, true, true, true])), (41, (.iconst 1, 42, 0, 1, 0, [], [])), (42, (.bipush 9, 44, 0, 9, 0, [], [])), (44, (.invokestatic 77, 47, 0, 0, 0, [], [])), (47, (.ifCond .eq 15, 50, 62, 0, 0, [], [])), (50, (.iload 4, 52, 0, 0, 0, [], [])), (52, (.iconst 1, 53, 0, 1, 0, [], [])), (53, (.sipush 999, 56, 0, 999, 0, [], [])), (56, (.invokestatic 77, 59, 0, 0, 0, [], [])), (59, (.ifCond .ne 5, 62, 64, 0, 0, [], [])), (62, (.iconst (-1), 63, 0, (-1), 0, [], [])), (63, (.ireturn, 64, 0, 0, 0, [], []))],
  [(64, (.aload_n 0, 65, 0, 0, 0, [], [])), (65, (.getfield 10, 68, 0, 0, 0, [], [])), (68, (.getfield 68, 71, 0, 0, 0, [], [])), (71, (.getfield 81, 74, 0, 0, 0, [], [])), (74, (.bipush 9, 76, 0, 9, 0, [], [])), (76, (.if_icmp .lt 6, 79, 82, 0, 0, [], [])), (79, (.bipush (-2), 81, 0, (-2), 0, [], [])), (81, (.ireturn, 82, 0, 0, 0, [], [])), (82, (.iload 5, 84, 0, 0, 0, [], [])), (84, (.ifCond .ne 20, 87, 104, 0, 0, [], [])), (87, (.aload_n 0, 88, 0, 0, 0, [], [])), (88, (.getfield 10, 91, 0, 0, 0, [], [])), (91, (.getfield 68, 94, 0, 0, 0, [], [])), (94, (.iload_n 2, 95, 0, 0, 0, [], [])), (95, (.invokevirtual 85, 98, 0, 0, 0, [], []))],
  [(98, (.ifCond .ne 6, 101, 104, 0, 0, [], [])), (101, (.bipush (-4), 103, 0, (-4), 0, [], [])), (103, (.ireturn, 104, 0, 0, 0, [], [])), (104, (.aload_n 0, 105, 0, 0, 0, [], [])), (105, (.getfield 10, 108, 0, 0, 0, [], [])), (108, (.getfield 68, 111, 0, 0, 0, [], [])), (111, (.iload_n 1, 112, 0, 0, 0, [], [])), (112, (.iload 5, 114, 0, 0, 0, [], [])), (114, (.ifCond .eq 8, 117, 122, 0, 0, [], [])), (117, (.bipush (-9), 119, 0, (-9), 0, [], [])), (119, (.goto 4, 122, 123, 0, 0, [], [])), (122, (.iload_n 2, 123, 0, 0, 0, [], [])), (123, (.iload_n 3, 124, 0, 0, 0, [], [])), (124, (.iload 4, 126, 0, 0, 0, [], [])), (126, (.invokevirtual 88, 129, 0, 0, 0, [], []))],
  [(129, (.ireturn, 130, 0, 0, 0, [], []))]]
noncomputable abbrev zT_84 : zT := (11, zI_84, 1, 6) -- X11_bough
noncomputable def zI_85 : List (List (Nat × zE)) := [[(0, (.aload_n 0, 1, 0, 0, 0, [], [])), (1, (.getfield 10, 4, 0, 0, 0, [], [])), (4, (.getfield 68, 7, 0, 0, 0, [], [])), (7, (.iload_n 1, 8, 0, 0, 0, [], [])), (8, (.invokevirtual 72, 11, 0, 0, 0, [], [])), (11, (.ifCond .ne 5, 14, 16, 0, 0, [], [])), (14, (.iconst (-1), 15, 0, (-1), 0, [], [])), (15, (.ireturn, 16, 0, 0, 0, [], [])), (16, (.iload_n 2, 17, 0, 0, 0, [], [])), (17, (.tableswitch 125 0 6 #[43, 56, 69, 82, 95, 107, 116], 60, 142, 0, 0, [(0, 60), (1, 73), (2, 86), (3, 99), (4, 112), (5, 124), (6, 133)], []))],
  [(60, (.aload_n 0, 61, 0, 0, 0, [], [])), (61, (.getfield 10, 64, 0, 0, 0, [], []))],
  [(64, (.getfield 68, 67, 0, 0, 0, [], [])), (67, (.getfield 92, 70, 0, 0, 0, [], [])), (70, (.iload_n 1, 71, 0, 0, 0, [], [])), (71, (.iaload, 72, 0, 0, 0, [], [])), (72, (.ireturn, 73, 0, 0, 0, [], [])), (73, (.aload_n 0, 74, 0, 0, 0, [], [])), (74, (.getfield 10, 77, 0, 0, 0, [], [])), (77, (.getfield 68, 80, 0, 0, 0, [], [])), (80, (.getfield 96, 83, 0, 0, 0, [], [])), (83, (.iload_n 1, 84, 0, 0, 0, [], [])), (84, (.iaload, 85, 0, 0, 0, [], [])), (85, (.ireturn, 86, 0, 0, 0, [], [])), (86, (.aload_n 0, 87, 0, 0, 0, [], [])), (87, (.getfield 10, 90, 0, 0, 0, [], [])), (90, (.getfield 68, 93, 0, 0, 0, [], [])), (93, (.getfield 99, 96, 0, 0, 0, [], []))],
  [(96, (.iload_n 1, 97, 0, 0, 0, [], [])), (97, (.iaload, 98, 0, 0, 0, [], [])), (98, (.ireturn, 99, 0, 0, 0, [], [])), (99, (.aload_n 0, 100, 0, 0, 0, [], [])), (100, (.getfield 10, 103, 0, 0, 0, [], [])), (103, (.getfield 68, 106, 0, 0, 0, [], [])), (106, (.getfield 102, 109, 0, 0, 0, [], [])), (109, (.iload_n 1, 110, 0, 0, 0, [], [])), (110, (.iaload, 111, 0, 0, 0, [], [])), (111, (.ireturn, 112, 0, 0, 0, [], [])), (112, (.aload_n 0, 113, 0, 0, 0, [], [])), (113, (.getfield 10, 116, 0, 0, 0, [], [])), (116, (.getfield 68, 119, 0, 0, 0, [], [])), (119, (.iload_n 1, 120, 0, 0, 0, [], [])), (120, (.invokevirtual 105, 123, 0, 0, 0, [], [])), (123, (.ireturn, 124, 0, 0, 0, [], [])), (124, (.aload_n 0, 125, 0, 0, 0, [], [])), (125, (.getfield 10, 128, 0, 0, 0, [], []))],
  [(128, (.iload_n 1, 129, 0, 0, 0, [], [])), (129, (.invokevirtual 109, 132, 0, 0, 0, [], [])), (132, (.ireturn, 133, 0, 0, 0, [], [])), (133, (.aload_n 0, 134, 0, 0, 0, [], [])), (134, (.getfield 10, 137, 0, 0, 0, [], [])), (137, (.iload_n 1, 138, 0, 0, 0, [], [])), (138, (.invokevirtual 112, 141, 0, 0, 0, [], [])), (141, (.ireturn, 142, 0, 0, 0, [], [])), (142, (.iconst (-1), 143, 0, (-1), 0, [], [])), (143, (.ireturn, 144, 0, 0, 0, [], []))]]
noncomputable abbrev zT_85 : zT := (11, zI_85, 1, 3) -- X11_boughOf
noncomputable def zI_86 : List (List (Nat × zE)) := [[(0, (.aload_n 0, 1, 0, 0, 0, [], [])), (1, (.getfield 10, 4, 0, 0, 0, [], [])), (4, (.getfield 68, 7, 0, 0, 0, [], [])), (7, (.iload_n 1, 8, 0, 0, 0, [], [])), (8, (.invokevirtual 72, 11, 0, 0, 0, [], [])), (11, (.ifCond .ne 5, 14, 16, 0, 0, [], [])), (14, (.iconst (-1), 15, 0, (-1), 0, [], [])), (15, (.ireturn, 16, 0, 0, 0, [], [])), (16, (.iload_n 2, 17, 0, 0, 0, [], [])), (17, (.iconst 2, 18, 0, 2, 0, [], [])), (18, (.if_icmp .ne 29, 21, 47, 0, 0, [], [])), (21, (.iload_n 3, 22, 0, 0, 0, [], [])), (22, (.iconst 1, 23, 0, 1, 0, [], [])), (23, (.bipush 9, 25, 0, 9, 0, [], [])), (25, (.invokestatic 77, 28, 0, 0, 0, [], [])), (28, (.ifCond .eq 19, 31, 47, 0, 0, [], [])), (31, (.aload_n 0, 32, 0, 0, 0, [], []))],
  [(32, (.getfield 10, 35, 0, 0, 0, [], [])), (35, (.getfield 68, 38, 0, 0, 0, [], [])), (38, (.getfield 99, 41, 0, 0, 0, [], [])), (41, (.iload_n 1, 42, 0, 0, 0, [], [])), (42, (.iload_n 3, 43, 0, 0, 0, [], [])), (43, (.invokestatic 115, 46, 0, 0, 0, [], [])), (46, (.ireturn, 47, 0, 0, 0, [], [])), (47, (.iload_n 2, 48, 0, 0, 0, [], [true, true, true, true])), (48, (.iconst 3, 49, 0, 3, 0, [], [])), (49, (.if_icmp .ne 30, 52, 79, 0, 0, [], [])), (52, (.iload_n 3, 53, 0, 0, 0, [], [])), (53, (.iconst 1, 54, 0, 1, 0, [], [])), (54, (.sipush 999, 57, 0, 999, 0, [], [])), (57, (.invokestatic 77, 60, 0, 0, 0, [], [])), (60, (.ifCond .eq 19, 63, 79, 0, 0, [], [])), (63, (.aload_n 0, 64, 0, 0, 0, [], []))],
  [(64, (.getfield 10, 67, 0, 0, 0, [], [])), (67, (.getfield 68, 70, 0, 0, 0, [], [])), (70, (.getfield 102, 73, 0, 0, 0, [], [])), (73, (.iload_n 1, 74, 0, 0, 0, [], [])), (74, (.iload_n 3, 75, 0, 0, 0, [], [])), (75, (.invokestatic 115, 78, 0, 0, 0, [], [])), (78, (.ireturn, 79, 0, 0, 0, [], [])), (79, (.iconst (-1), 80, 0, (-1), 0, [], [])), (80, (.ireturn, 81, 0, 0, 0, [], []))]]
noncomputable abbrev zT_86 : zT := (11, zI_86, 1, 4) -- X11_change
noncomputable def zI_87 : List (List (Nat × zE)) := [[(0, (.aload_n 0, 1, 0, 0, 0, [], [])), (1, (.getfield 10, 4, 0, 0, 0, [], [])), (4, (.getfield 68, 7, 0, 0, 0, [], [])), (7, (.iload_n 1, 8, 0, 0, 0, [], [])), (8, (.invokevirtual 72, 11, 0, 0, 0, [], [])), (11, (.ifCond .eq 10, 14, 21, 0, 0, [], [])), (14, (.iload_n 2, 15, 0, 0, 0, [], [])), (15, (.invokestatic 64, 18, 0, 0, 0, [], [])), (18, (.ifCond .ne 5, 21, 23, 0, 0, [], [])), (21, (.iconst (-1), 22, 0, (-1), 0, [], [])), (22, (.ireturn, 23, 0, 0, 0, [], [])), (23, (.aload_n 0, 24, 0, 0, 0, [], [])), (24, (.getfield 10, 27, 0, 0, 0, [], [])), (27, (.getfield 68, 30, 0, 0, 0, [], [])), (30, (.getfield 92, 33, 0, 0, 0, [], []))],
  [(33, (.iload_n 1, 34, 0, 0, 0, [], [])), (34, (.iload_n 2, 35, 0, 0, 0, [], [])), (35, (.invokestatic 115, 38, 0, 0, 0, [], [])), (38, (.ireturn, 39, 0, 0, 0, [], []))]]
noncomputable abbrev zT_87 : zT := (11, zI_87, 1, 3) -- X11_graft
noncomputable def zI_88 : List (List (Nat × zE)) := [[(0, (.iload_n 1, 1, 0, 0, 0, [], [])), (1, (.iconst 0, 2, 0, 0, 0, [], [])), (2, (.iconst 1, 3, 0, 1, 0, [], [])), (3, (.invokestatic 77, 6, 0, 0, 0, [], [])), (6, (.ifCond .eq 13, 9, 19, 0, 0, [], [])), (9, (.iload_n 2, 10, 0, 0, 0, [], [])), (10, (.iconst 0, 11, 0, 0, 0, [], [])), (11, (.bipush 9, 13, 0, 9, 0, [], [])), (13, (.invokestatic 77, 16, 0, 0, 0, [], [])), (16, (.ifCond .ne 5, 19, 21, 0, 0, [], [])), (19, (.iconst (-1), 20, 0, (-1), 0, [], [])), (20, (.ireturn, 21, 0, 0, 0, [], [])), (21, (.iload_n 1, 22, 0, 0, 0, [], [])), (22, (.ifCond .ne 16, 25, 38, 0, 0, [], [])), (25, (.aload_n 0, 26, 0, 0, 0, [], [])), (26, (.getfield 10, 29, 0, 0, 0, [], [])), (29, (.getfield 68, 32, 0, 0, 0, [], []))],
  [(32, (.getfield 119, 35, 0, 0, 0, [], [])), (35, (.goto 13, 38, 48, 0, 0, [], [])), (38, (.aload_n 0, 39, 0, 0, 0, [], [])), (39, (.getfield 10, 42, 0, 0, 0, [], [])), (42, (.getfield 68, 45, 0, 0, 0, [], [])), (45, (.getfield 122, 48, 0, 0, 0, [], [])), (48, (.istore_n 3, 49, 0, 0, 0, [], [true, true, true, false])), (49, (.iload_n 1, 50, 0, 0, 0, [], [])), (50, (.ifCond .ne 17, 53, 67, 0, 0, [], [])), (53, (.aload_n 0, 54, 0, 0, 0, [], [])), (54, (.getfield 10, 57, 0, 0, 0, [], [])), (57, (.getfield 68, 60, 0, 0, 0, [], [])), (60, (.iload_n 2, 61, 0, 0, 0, [], [])), (61, (.putfield 119, 64, 0, 0, 0, [], []))],
  [(64, (.goto 14, 67, 78, 0, 0, [], [])), (67, (.aload_n 0, 68, 0, 0, 0, [], [])), (68, (.getfield 10, 71, 0, 0, 0, [], [])), (71, (.getfield 68, 74, 0, 0, 0, [], [])), (74, (.iload_n 2, 75, 0, 0, 0, [], [])), (75, (.putfield 122, 78, 0, 0, 0, [], [])), (78, (.iload_n 3, 79, 0, 0, 0, [], [])), (79, (.ireturn, 80, 0, 0, 0, [], []))]]
noncomputable abbrev zT_88 : zT := (11, zI_88, 1, 4) -- X11_weather
noncomputable def zI_89 : List (List (Nat × zE)) := [[(0, (.iload_n 3, 1, 0, 0, 0, [], [])), (1, (.iconst 1, 2, 0, 1, 0, [], [])), (2, (.bipush 8, 4, 0, 8, 0, [], [])), (4, (.invokestatic 77, 7, 0, 0, 0, [], [])), (7, (.ifCond .ne 5, 10, 12, 0, 0, [], [])), (10, (.iconst (-1), 11, 0, (-1), 0, [], [])), (11, (.ireturn, 12, 0, 0, 0, [], [])), (12, (.aload_n 0, 13, 0, 0, 0, [], [])), (13, (.getfield 25, 16, 0, 0, 0, [], [])), (16, (.getfield 125, 19, 0, 0, 0, [], [])), (19, (.iload_n 3, 20, 0, 0, 0, [], [])), (20, (.iadd, 21, 0, 0, 0, [], [])), (21, (.sipush 200, 24, 0, 200, 0, [], [])), (24, (.if_icmp .le 6, 27, 30, 0, 0, [], [])), (27, (.bipush (-2), 29, 0, (-2), 0, [], [])), (29, (.ireturn, 30, 0, 0, 0, [], [])), (30, (.aload_n 0, 31, 0, 0, 0, [], [])), (31, (.getfield 25, 34, 0, 0, 0, [], []))],
  [(34, (.lload_n 1, 35, 0, 0, 0, [], [])), (35, (.iload_n 3, 36, 0, 0, 0, [], [])), (36, (.invokevirtual 126, 39, 0, 0, 0, [], [])), (39, (.aload_n 0, 40, 0, 0, 0, [], [])), (40, (.getfield 25, 43, 0, 0, 0, [], [])), (43, (.getfield 125, 46, 0, 0, 0, [], [])), (46, (.ireturn, 47, 0, 0, 0, [], []))]]
noncomputable abbrev zT_89 : zT := (11, zI_89, 1, 4) -- X11_feed
noncomputable def zI_90 : List (List (Nat × zE)) := [[(0, (.aload_n 0, 1, 0, 0, 0, [], [])), (1, (.getfield 32, 4, 0, 0, 0, [], [])), (4, (.aload_n 0, 5, 0, 0, 0, [], [])), (5, (.getfield 25, 8, 0, 0, 0, [], [])), (8, (.invokevirtual 130, 11, 0, 0, 0, [], [])), (11, (.istore_n 1, 12, 0, 0, 0, [], [])), (12, (.aload_n 0, 13, 0, 0, 0, [], [])), (13, (.getfield 25, 16, 0, 0, 0, [], [])), (16, (.iconst 0, 17, 0, 0, 0, [], [])), (17, (.putfield 125, 20, 0, 0, 0, [], [])), (20, (.iload_n 1, 21, 0, 0, 0, [], [])), (21, (.ifCond .lt 8, 24, 29, 0, 0, [], [])), (24, (.bipush (-100), 26, 0, (-100), 0, [], [])), (26, (.iload_n 1, 27, 0, 0, 0, [], [])), (27, (.isub, 28, 0, 0, 0, [], [])), (28, (.ireturn, 29, 0, 0, 0, [], [])), (29, (.aload_n 0, 30, 0, 0, 0, [], [])), (30, (.getfield 10, 33, 0, 0, 0, [], []))],
  [(33, (.getfield 68, 36, 0, 0, 0, [], [])), (36, (.getfield 134, 39, 0, 0, 0, [], [])), (39, (.aload_n 0, 40, 0, 0, 0, [], [])), (40, (.getfield 32, 43, 0, 0, 0, [], [])), (43, (.getfield 138, 46, 0, 0, 0, [], [])), (46, (.invokevirtual 139, 49, 0, 0, 0, [], [])), (49, (.aload_n 0, 50, 0, 0, 0, [], [])), (50, (.getfield 10, 53, 0, 0, 0, [], [])), (53, (.getfield 68, 56, 0, 0, 0, [], [])), (56, (.getfield 134, 59, 0, 0, 0, [], [])), (59, (.getfield 145, 62, 0, 0, 0, [], [])), (62, (.ireturn, 63, 0, 0, 0, [], []))]]
noncomputable abbrev zT_90 : zT := (11, zI_90, 1, 2) -- X11_rules
noncomputable def zI_91 : List (List (Nat × zE)) := [[(0, (.iload_n 1, 1, 0, 0, 0, [], [])), (1, (.iconst 1, 2, 0, 1, 0, [], [])), (2, (.sipush 200, 5, 0, 200, 0, [], [])), (5, (.invokestatic 77, 8, 0, 0, 0, [], [])), (8, (.ifCond .eq 10, 11, 18, 0, 0, [], [])), (11, (.iload_n 2, 12, 0, 0, 0, [], [])), (12, (.invokestatic 146, 15, 0, 0, 0, [], [])), (15, (.ifCond .ne 5, 18, 20, 0, 0, [], [])), (18, (.iconst (-1), 19, 0, (-1), 0, [], [])), (19, (.ireturn, 20, 0, 0, 0, [], [])), (20, (.aload_n 0, 21, 0, 0, 0, [], [])), (21, (.getfield 10, 24, 0, 0, 0, [], [])), (24, (.getfield 149, 27, 0, 0, 0, [], [])), (27, (.getfield 153, 30, 0, 0, 0, [], [])), (30, (.bipush 8, 32, 0, 8, 0, [], []))],
  [(32, (.if_icmp .lt 6, 35, 38, 0, 0, [], [])), (35, (.bipush (-2), 37, 0, (-2), 0, [], [])), (37, (.ireturn, 38, 0, 0, 0, [], [])), (38, (.aload_n 0, 39, 0, 0, 0, [], [])), (39, (.getfield 10, 42, 0, 0, 0, [], [])), (42, (.getfield 149, 45, 0, 0, 0, [], [])), (45, (.iload_n 1, 46, 0, 0, 0, [], [])), (46, (.iload_n 2, 47, 0, 0, 0, [], [])), (47, (.invokevirtual 156, 50, 0, 0, 0, [], [])), (50, (.ireturn, 51, 0, 0, 0, [], []))]]
noncomputable abbrev zT_91 : zT := (11, zI_91, 1, 3) -- X11_person
noncomputable def zI_92 : List (List (Nat × zE)) := [[(0, (.aload_n 0, 1, 0, 0, 0, [], [])), (1, (.getfield 10, 4, 0, 0, 0, [], [])), (4, (.getfield 149, 7, 0, 0, 0, [], [])), (7, (.iload_n 1, 8, 0, 0, 0, [], [])), (8, (.invokevirtual 160, 11, 0, 0, 0, [], [])), (11, (.ifCond .ne 5, 14, 16, 0, 0, [], [])), (14, (.iconst (-1), 15, 0, (-1), 0, [], [])), (15, (.ireturn, 16, 0, 0, 0, [], [])), (16, (.iload_n 2, 17, 0, 0, 0, [], [])), (17, (.tableswitch 66 0 2 #[27, 40, 53], 44, 83, 0, 0, [(0, 44), (1, 57), (2, 70)], []))],
  [(44, (.aload_n 0, 45, 0, 0, 0, [], [])), (45, (.getfield 10, 48, 0, 0, 0, [], [])), (48, (.getfield 149, 51, 0, 0, 0, [], [])), (51, (.getfield 161, 54, 0, 0, 0, [], [])), (54, (.iload_n 1, 55, 0, 0, 0, [], [])), (55, (.iaload, 56, 0, 0, 0, [], [])), (56, (.ireturn, 57, 0, 0, 0, [], [])), (57, (.aload_n 0, 58, 0, 0, 0, [], [])), (58, (.getfield 10, 61, 0, 0, 0, [], [])), (61, (.getfield 149, 64, 0, 0, 0, [], []))],
  [(64, (.getfield 164, 67, 0, 0, 0, [], [])), (67, (.iload_n 1, 68, 0, 0, 0, [], [])), (68, (.iaload, 69, 0, 0, 0, [], [])), (69, (.ireturn, 70, 0, 0, 0, [], [])), (70, (.aload_n 0, 71, 0, 0, 0, [], [])), (71, (.getfield 10, 74, 0, 0, 0, [], [])), (74, (.getfield 149, 77, 0, 0, 0, [], [])), (77, (.getfield 167, 80, 0, 0, 0, [], [])), (80, (.iload_n 1, 81, 0, 0, 0, [], [])), (81, (.iaload, 82, 0, 0, 0, [], [])), (82, (.ireturn, 83, 0, 0, 0, [], [])), (83, (.iconst (-1), 84, 0, (-1), 0, [], [])), (84, (.ireturn, 85, 0, 0, 0, [], []))]]
noncomputable abbrev zT_92 : zT := (11, zI_92, 1, 3) -- X11_personOf
noncomputable def zI_93 : List (List (Nat × zE)) := [[(0, (.aload_n 0, 1, 0, 0, 0, [], [])), (1, (.getfield 10, 4, 0, 0, 0, [], [])), (4, (.getfield 149, 7, 0, 0, 0, [], [])), (7, (.iload_n 1, 8, 0, 0, 0, [], [])), (8, (.invokevirtual 160, 11, 0, 0, 0, [], [])), (11, (.ifCond .eq 17, 14, 28, 0, 0, [], [])), (14, (.aload_n 0, 15, 0, 0, 0, [], [])), (15, (.getfield 10, 18, 0, 0, 0, [], [])), (18, (.getfield 68, 21, 0, 0, 0, [], [])), (21, (.iload_n 2, 22, 0, 0, 0, [], [])), (22, (.invokevirtual 72, 25, 0, 0, 0, [], [])), (25, (.ifCond .ne 5, 28, 30, 0, 0, [], [])), (28, (.iconst (-1), 29, 0, (-1), 0, [], [])), (29, (.ireturn, 30, 0, 0, 0, [], [])), (30, (.aload_n 0, 31, 0, 0, 0, [], [])), (31, (.getfield 10, 34, 0, 0, 0, [], []))],
  [(34, (.getfield 68, 37, 0, 0, 0, [], [])), (37, (.iload_n 2, 38, 0, 0, 0, [], [])), (38, (.invokevirtual 85, 41, 0, 0, 0, [], [])), (41, (.ifCond .ne 6, 44, 47, 0, 0, [], [])), (44, (.bipush (-4), 46, 0, (-4), 0, [], [])), (46, (.ireturn, 47, 0, 0, 0, [], [])), (47, (.aload_n 0, 48, 0, 0, 0, [], [])), (48, (.getfield 10, 51, 0, 0, 0, [], [])), (51, (.getfield 149, 54, 0, 0, 0, [], [])), (54, (.getfield 167, 57, 0, 0, 0, [], [])), (57, (.iload_n 1, 58, 0, 0, 0, [], [])), (58, (.iload_n 2, 59, 0, 0, 0, [], [])), (59, (.invokestatic 115, 62, 0, 0, 0, [], [])), (62, (.ireturn, 63, 0, 0, 0, [], []))]]
noncomputable abbrev zT_93 : zT := (11, zI_93, 1, 3) -- X11_sit
noncomputable def zI_94 : List (List (Nat × zE)) := [[(0, (.aload_n 0, 1, 0, 0, 0, [], [])), (1, (.getfield 10, 4, 0, 0, 0, [], [])), (4, (.getfield 149, 7, 0, 0, 0, [], [])), (7, (.iload_n 1, 8, 0, 0, 0, [], [])), (8, (.invokevirtual 160, 11, 0, 0, 0, [], [])), (11, (.ifCond .ne 5, 14, 16, 0, 0, [], [])), (14, (.iconst (-1), 15, 0, (-1), 0, [], [])), (15, (.ireturn, 16, 0, 0, 0, [], [])), (16, (.aload_n 0, 17, 0, 0, 0, [], [])), (17, (.getfield 10, 20, 0, 0, 0, [], [])), (20, (.getfield 149, 23, 0, 0, 0, [], [])), (23, (.getfield 167, 26, 0, 0, 0, [], [])), (26, (.iload_n 1, 27, 0, 0, 0, [], [])), (27, (.bipush (-9), 29, 0, (-9), 0, [], [])), (29, (.invokestatic 115, 32, 0, 0, 0, [], []))],
  [(32, (.ireturn, 33, 0, 0, 0, [], []))]]
noncomputable abbrev zT_94 : zT := (11, zI_94, 1, 2) -- X11_down
noncomputable def zI_95 : List (List (Nat × zE)) := [[(0, (.aload_n 0, 1, 0, 0, 0, [], [])), (1, (.getfield 10, 4, 0, 0, 0, [], [])), (4, (.invokevirtual 170, 7, 0, 0, 0, [], [])), (7, (.aload_n 0, 8, 0, 0, 0, [], [])), (8, (.getfield 10, 11, 0, 0, 0, [], [])), (11, (.invokevirtual 173, 14, 0, 0, 0, [], [])), (14, (.ireturn, 15, 0, 0, 0, [], []))]]
noncomputable abbrev zT_95 : zT := (11, zI_95, 1, 1) -- X11_cracks
noncomputable def zI_96 : List (List (Nat × zE)) := [[(0, (.aload_n 0, 1, 0, 0, 0, [], [])), (1, (.getfield 10, 4, 0, 0, 0, [], [])), (4, (.invokevirtual 170, 7, 0, 0, 0, [], [])), (7, (.aload_n 0, 8, 0, 0, 0, [], [])), (8, (.getfield 10, 11, 0, 0, 0, [], [])), (11, (.invokevirtual 177, 14, 0, 0, 0, [], [])), (14, (.istore_n 1, 15, 0, 0, 0, [], [])), (15, (.iload_n 1, 16, 0, 0, 0, [], [])), (16, (.bipush (-9), 18, 0, (-9), 0, [], [])), (18, (.if_icmp .ne 8, 21, 26, 0, 0, [], [])), (21, (.bipush (-3), 23, 0, (-3), 0, [], [])), (23, (.goto 4, 26, 27, 0, 0, [], [])), (26, (.iload_n 1, 27, 0, 0, 0, [], [])), (27, (.ireturn, 28, 0, 0, 0, [], []))]]
noncomputable abbrev zT_96 : zT := (11, zI_96, 1, 2) -- X11_worst
noncomputable def zI_97 : List (List (Nat × zE)) := [[(0, (.aload_n 0, 1, 0, 0, 0, [], [])), (1, (.getfield 10, 4, 0, 0, 0, [], [])), (4, (.invokevirtual 180, 7, 0, 0, 0, [], [])), (7, (.ireturn, 8, 0, 0, 0, [], []))]]
noncomputable abbrev zT_97 : zT := (11, zI_97, 1, 1) -- X11_fall
noncomputable def zI_98 : List (List (Nat × zE)) := [[(0, (.aload_n 0, 1, 0, 0, 0, [], [])), (1, (.getfield 16, 4, 0, 0, 0, [], [])), (4, (.aload_n 0, 5, 0, 0, 0, [], [])), (5, (.getfield 10, 8, 0, 0, 0, [], [])), (8, (.invokevirtual 183, 11, 0, 0, 0, [], [])), (11, (.aload_n 0, 12, 0, 0, 0, [], [])), (12, (.getfield 16, 15, 0, 0, 0, [], [])), (15, (.invokevirtual 180, 18, 0, 0, 0, [], [])), (18, (.ireturn, 19, 0, 0, 0, [], []))]]
noncomputable abbrev zT_98 : zT := (11, zI_98, 1, 1) -- X11_would
noncomputable def zI_99 : List (List (Nat × zE)) := [[(0, (.iload_n 1, 1, 0, 0, 0, [], [])), (1, (.invokestatic 146, 4, 0, 0, 0, [], [])), (4, (.ifCond .ne 5, 7, 9, 0, 0, [], [])), (7, (.iconst (-1), 8, 0, (-1), 0, [], [])), (8, (.ireturn, 9, 0, 0, 0, [], [])), (9, (.aload_n 0, 10, 0, 0, 0, [], [])), (10, (.getfield 16, 13, 0, 0, 0, [], [])), (13, (.aload_n 0, 14, 0, 0, 0, [], [])), (14, (.getfield 10, 17, 0, 0, 0, [], [])), (17, (.invokevirtual 183, 20, 0, 0, 0, [], [])), (20, (.aload_n 0, 21, 0, 0, 0, [], [])), (21, (.getfield 16, 24, 0, 0, 0, [], [])), (24, (.invokevirtual 180, 27, 0, 0, 0, [], [])), (27, (.pop, 28, 0, 0, 0, [], [])), (28, (.aload_n 0, 29, 0, 0, 0, [], [])), (29, (.getfield 16, 32, 0, 0, 0, [], []))],
  [(32, (.getfield 149, 35, 0, 0, 0, [], [])), (35, (.iload_n 1, 36, 0, 0, 0, [], [])), (36, (.invokevirtual 186, 39, 0, 0, 0, [], [])), (39, (.ireturn, 40, 0, 0, 0, [], []))]]
noncomputable abbrev zT_99 : zT := (11, zI_99, 1, 2) -- X11_standing
noncomputable def zI_100 : List (List (Nat × zE)) := [[(0, (.aload_n 0, 1, 0, 0, 0, [], [])), (1, (.getfield 16, 4, 0, 0, 0, [], [])), (4, (.aload_n 0, 5, 0, 0, 0, [], [])), (5, (.getfield 10, 8, 0, 0, 0, [], [])), (8, (.invokevirtual 183, 11, 0, 0, 0, [], [])), (11, (.aload_n 0, 12, 0, 0, 0, [], [])), (12, (.getfield 16, 15, 0, 0, 0, [], [])), (15, (.invokevirtual 180, 18, 0, 0, 0, [], [])), (18, (.pop, 19, 0, 0, 0, [], [])), (19, (.aload_n 0, 20, 0, 0, 0, [], [])), (20, (.getfield 16, 23, 0, 0, 0, [], [])), (23, (.getfield 149, 26, 0, 0, 0, [], [])), (26, (.iconst 0, 27, 0, 0, 0, [], [])), (27, (.invokevirtual 186, 30, 0, 0, 0, [], [])), (30, (.aload_n 0, 31, 0, 0, 0, [], [])), (31, (.getfield 16, 34, 0, 0, 0, [], []))],
  [(34, (.getfield 149, 37, 0, 0, 0, [], [])), (37, (.iconst 1, 38, 0, 1, 0, [], [])), (38, (.invokevirtual 186, 41, 0, 0, 0, [], [])), (41, (.isub, 42, 0, 0, 0, [], [])), (42, (.istore_n 1, 43, 0, 0, 0, [], [])), (43, (.iload_n 1, 44, 0, 0, 0, [], [])), (44, (.ifCond .ne 5, 47, 49, 0, 0, [], [])), (47, (.iconst 2, 48, 0, 2, 0, [], [])), (48, (.ireturn, 49, 0, 0, 0, [], [])), (49, (.iload_n 1, 50, 0, 0, 0, [], [])), (50, (.ifCond .le 7, 53, 57, 0, 0, [], [])), (53, (.iconst 0, 54, 0, 0, 0, [], [])), (54, (.goto 4, 57, 58, 0, 0, [], [])), (57, (.iconst 1, 58, 0, 1, 0, [], [])), (58, (.ireturn, 59, 0, 0, 0, [], []))]]
noncomputable abbrev zT_100 : zT := (11, zI_100, 1, 2) -- X11_verdict
noncomputable def zI_101 : List (List (Nat × zE)) := [[(0, (.aload_n 0, 1, 0, 0, 0, [], [])), (1, (.getfield 10, 4, 0, 0, 0, [], [])), (4, (.getfield 68, 7, 0, 0, 0, [], [])), (7, (.iload_n 1, 8, 0, 0, 0, [], [])), (8, (.invokevirtual 72, 11, 0, 0, 0, [], [])), (11, (.ifCond .ne 5, 14, 16, 0, 0, [], [])), (14, (.iconst (-1), 15, 0, (-1), 0, [], [])), (15, (.ireturn, 16, 0, 0, 0, [], [])), (16, (.aload_n 0, 17, 0, 0, 0, [], [])), (17, (.getfield 10, 20, 0, 0, 0, [], [])), (20, (.getfield 68, 23, 0, 0, 0, [], [])), (23, (.iload_n 1, 24, 0, 0, 0, [], [])), (24, (.invokevirtual 85, 27, 0, 0, 0, [], [])), (27, (.ifCond .ne 6, 30, 33, 0, 0, [], [])), (30, (.bipush (-4), 32, 0, (-4), 0, [], []))],
  [(32, (.ireturn, 33, 0, 0, 0, [], [])), (33, (.aload_n 0, 34, 0, 0, 0, [], [])), (34, (.getfield 10, 37, 0, 0, 0, [], [])), (37, (.invokevirtual 170, 40, 0, 0, 0, [], [])), (40, (.aload_n 0, 41, 0, 0, 0, [], [])), (41, (.getfield 10, 44, 0, 0, 0, [], [])), (44, (.iload_n 1, 45, 0, 0, 0, [], [])), (45, (.invokevirtual 189, 48, 0, 0, 0, [], [])), (48, (.ireturn, 49, 0, 0, 0, [], []))]]
noncomputable abbrev zT_101 : zT := (11, zI_101, 1, 2) -- X11_room
noncomputable def zI_102 : List (List (Nat × zE)) := [[(0, (.aload_n 0, 1, 0, 0, 0, [], [])), (1, (.getfield 10, 4, 0, 0, 0, [], [])), (4, (.getfield 149, 7, 0, 0, 0, [], [])), (7, (.iload_n 1, 8, 0, 0, 0, [], [])), (8, (.invokevirtual 160, 11, 0, 0, 0, [], [])), (11, (.ifCond .ne 5, 14, 16, 0, 0, [], [])), (14, (.iconst (-1), 15, 0, (-1), 0, [], [])), (15, (.ireturn, 16, 0, 0, 0, [], [])), (16, (.aload_n 0, 17, 0, 0, 0, [], [])), (17, (.iload_n 1, 18, 0, 0, 0, [], [])), (18, (.invokevirtual 192, 21, 0, 0, 0, [], [])), (21, (.iconst (-1), 22, 0, (-1), 0, [], [])), (22, (.istore_n 2, 23, 0, 0, 0, [], [])), (23, (.bipush (-3), 25, 0, (-3), 0, [], [])), (25, (.istore_n 3, 26, 0, 0, 0, [], [])), (26, (.iconst 0, 27, 0, 0, 0, [], [])), (27, (.istore 4, 29, 0, 0, 0, [], [])), (29, (.iload 4, 31, 0, 0, 0, [], [true, false, true, true, true])), (31, (.aload_n 0, 32, 0, 0, 0, [], []))],
  [(32, (.getfield 16, 35, 0, 0, 0, [], [])), (35, (.getfield 68, 38, 0, 0, 0, [], [])), (38, (.getfield 81, 41, 0, 0, 0, [], [])), (41, (.if_icmp .ge 50, 44, 91, 0, 0, [], [])), (44, (.aload_n 0, 45, 0, 0, 0, [], [])), (45, (.getfield 16, 48, 0, 0, 0, [], [])), (48, (.getfield 68, 51, 0, 0, 0, [], [])), (51, (.iload 4, 53, 0, 0, 0, [], [])), (53, (.invokevirtual 85, 56, 0, 0, 0, [], [])), (56, (.ifCond .eq 29, 59, 85, 0, 0, [], [])), (59, (.aload_n 0, 60, 0, 0, 0, [], [])), (60, (.getfield 16, 63, 0, 0, 0, [], [])), (63, (.iload 4, 65, 0, 0, 0, [], []))],
  [(65, (.invokevirtual 189, 68, 0, 0, 0, [], [])), (68, (.iload_n 2, 69, 0, 0, 0, [], [])), (69, (.if_icmp .le 16, 72, 85, 0, 0, [], [])), (72, (.aload_n 0, 73, 0, 0, 0, [], [])), (73, (.getfield 16, 76, 0, 0, 0, [], [])), (76, (.iload 4, 78, 0, 0, 0, [], [])), (78, (.invokevirtual 189, 81, 0, 0, 0, [], [])), (81, (.istore_n 2, 82, 0, 0, 0, [], [])), (82, (.iload 4, 84, 0, 0, 0, [], [])), (84, (.istore_n 3, 85, 0, 0, 0, [], [])), (85, (.iinc 4 1, 88, 0, 1, 0, [], [])), (88, (.goto (-59), 91, 29, 0, 0, [], [])), (91, (.iload_n 3, 92, 0, 0, 0, [], [])), (92, (.ireturn, 93, 0, 0, 0, [], []))]]
noncomputable abbrev zT_102 : zT := (11, zI_102, 1, 5) -- X11_best
noncomputable def zI_103 : List (List (Nat × zE)) := [[(0, (.aload_n 0, 1, 0, 0, 0, [], [])), (1, (.getfield 10, 4, 0, 0, 0, [], [])), (4, (.getfield 149, 7, 0, 0, 0, [], [])), (7, (.iload_n 1, 8, 0, 0, 0, [], [])), (8, (.invokevirtual 160, 11, 0, 0, 0, [], [])), (11, (.ifCond .ne 5, 14, 16, 0, 0, [], [])), (14, (.iconst (-1), 15, 0, (-1), 0, [], [])), (15, (.ireturn, 16, 0, 0, 0, [], [])), (16, (.aload_n 0, 17, 0, 0, 0, [], [])), (17, (.iload_n 1, 18, 0, 0, 0, [], [])), (18, (.invokevirtual 192, 21, 0, 0, 0, [], [])), (21, (.aload_n 0, 22, 0, 0, 0, [], [])), (22, (.getfield 10, 25, 0, 0, 0, [], [])), (25, (.getfield 149, 28, 0, 0, 0, [], [])), (28, (.getfield 161, 31, 0, 0, 0, [], [])), (31, (.iload_n 1, 32, 0, 0, 0, [], []))],
  [(32, (.iaload, 33, 0, 0, 0, [], [])), (33, (.istore_n 2, 34, 0, 0, 0, [], [])), (34, (.iconst 0, 35, 0, 0, 0, [], [])), (35, (.istore_n 3, 36, 0, 0, 0, [], [])), (36, (.iconst 0, 37, 0, 0, 0, [], [])), (37, (.istore 4, 39, 0, 0, 0, [], [])), (39, (.iload 4, 41, 0, 0, 0, [], [true, true, true, true, true])), (41, (.aload_n 0, 42, 0, 0, 0, [], [])), (42, (.getfield 16, 45, 0, 0, 0, [], [])), (45, (.getfield 68, 48, 0, 0, 0, [], [])), (48, (.getfield 81, 51, 0, 0, 0, [], [])), (51, (.if_icmp .ge 82, 54, 133, 0, 0, [], [])), (54, (.iload 4, 56, 0, 0, 0, [], [])), (56, (.aload_n 0, 57, 0, 0, 0, [], [])), (57, (.getfield 10, 60, 0, 0, 0, [], [])), (60, (.getfield 149, 63, 0, 0, 0, [], [])), (63, (.getfield 167, 66, 0, 0, 0, [], []))],
  [(66, (.iload_n 1, 67, 0, 0, 0, [], [])), (67, (.iaload, 68, 0, 0, 0, [], [])), (68, (.if_icmp .eq 59, 71, 127, 0, 0, [], [])), (71, (.aload_n 0, 72, 0, 0, 0, [], [])), (72, (.getfield 16, 75, 0, 0, 0, [], [])), (75, (.getfield 68, 78, 0, 0, 0, [], [])), (78, (.iload 4, 80, 0, 0, 0, [], [])), (80, (.invokevirtual 85, 83, 0, 0, 0, [], [])), (83, (.ifCond .ne 6, 86, 89, 0, 0, [], [])), (86, (.goto 41, 89, 127, 0, 0, [], [])), (89, (.aload_n 0, 90, 0, 0, 0, [], [])), (90, (.getfield 16, 93, 0, 0, 0, [], [])), (93, (.iload 4, 95, 0, 0, 0, [], [])), (95, (.iload_n 2, 96, 0, 0, 0, [], []))],
  [(96, (.invokevirtual 196, 99, 0, 0, 0, [], [])), (99, (.aload_n 0, 100, 0, 0, 0, [], [])), (100, (.getfield 16, 103, 0, 0, 0, [], [])), (103, (.invokevirtual 173, 106, 0, 0, 0, [], [])), (106, (.ifCond .ne 10, 109, 116, 0, 0, [], [])), (109, (.iload_n 3, 110, 0, 0, 0, [], [])), (110, (.iconst 1, 111, 0, 1, 0, [], [])), (111, (.iload 4, 113, 0, 0, 0, [], [])), (113, (.ishl, 114, 0, 0, 0, [], [])), (114, (.ior, 115, 0, 0, 0, [], [])), (115, (.istore_n 3, 116, 0, 0, 0, [], [])), (116, (.aload_n 0, 117, 0, 0, 0, [], [])), (117, (.getfield 16, 120, 0, 0, 0, [], [])), (120, (.iload 4, 122, 0, 0, 0, [], [])), (122, (.iload_n 2, 123, 0, 0, 0, [], [])), (123, (.ineg, 124, 0, 0, 0, [], [])), (124, (.invokevirtual 196, 127, 0, 0, 0, [], [])), (127, (.iinc 4 1, 130, 0, 1, 0, [], []))],
  [(130, (.goto (-91), 133, 39, 0, 0, [], [])), (133, (.iload_n 3, 134, 0, 0, 0, [], [])), (134, (.ireturn, 135, 0, 0, 0, [], []))]]
noncomputable abbrev zT_103 : zT := (11, zI_103, 1, 5) -- X11_safe
noncomputable def zI_104 : List (List (Nat × zE)) := [[(0, (.aload_n 0, 1, 0, 0, 0, [], [])), (1, (.getfield 16, 4, 0, 0, 0, [], [])), (4, (.aload_n 0, 5, 0, 0, 0, [], [])), (5, (.getfield 10, 8, 0, 0, 0, [], [])), (8, (.invokevirtual 183, 11, 0, 0, 0, [], [])), (11, (.aload_n 0, 12, 0, 0, 0, [], [])), (12, (.getfield 16, 15, 0, 0, 0, [], [])), (15, (.invokevirtual 180, 18, 0, 0, 0, [], [])), (18, (.pop, 19, 0, 0, 0, [], [])), (19, (.aload_n 0, 20, 0, 0, 0, [], [])), (20, (.getfield 16, 23, 0, 0, 0, [], [])), (23, (.getfield 149, 26, 0, 0, 0, [], [])), (26, (.iconst 0, 27, 0, 0, 0, [], [])), (27, (.invokevirtual 186, 30, 0, 0, 0, [], [])), (30, (.aload_n 0, 31, 0, 0, 0, [], [])), (31, (.getfield 16, 34, 0, 0, 0, [], []))],
  [(34, (.getfield 149, 37, 0, 0, 0, [], [])), (37, (.iconst 1, 38, 0, 1, 0, [], [])), (38, (.invokevirtual 186, 41, 0, 0, 0, [], [])), (41, (.iadd, 42, 0, 0, 0, [], [])), (42, (.istore_n 1, 43, 0, 0, 0, [], [])), (43, (.bipush (-3), 45, 0, (-3), 0, [], [])), (45, (.istore_n 2, 46, 0, 0, 0, [], [])), (46, (.iconst 0, 47, 0, 0, 0, [], [])), (47, (.istore_n 3, 48, 0, 0, 0, [], [])), (48, (.iload_n 3, 49, 0, 0, 0, [], [true, true, true, true, false])), (49, (.aload_n 0, 50, 0, 0, 0, [], [])), (50, (.getfield 10, 53, 0, 0, 0, [], [])), (53, (.getfield 68, 56, 0, 0, 0, [], [])), (56, (.getfield 81, 59, 0, 0, 0, [], [])), (59, (.if_icmp .ge 27, 62, 86, 0, 0, [], [])), (62, (.aload_n 0, 63, 0, 0, 0, [], [])), (63, (.iload_n 3, 64, 0, 0, 0, [], []))],
  [(64, (.invokevirtual 200, 67, 0, 0, 0, [], [])), (67, (.istore 4, 69, 0, 0, 0, [], [])), (69, (.iload 4, 71, 0, 0, 0, [], [])), (71, (.iload_n 1, 72, 0, 0, 0, [], [])), (72, (.if_icmp .le 8, 75, 80, 0, 0, [], [])), (75, (.iload 4, 77, 0, 0, 0, [], [])), (77, (.istore_n 1, 78, 0, 0, 0, [], [])), (78, (.iload_n 3, 79, 0, 0, 0, [], [])), (79, (.istore_n 2, 80, 0, 0, 0, [], [])), (80, (.iinc 3 1, 83, 0, 1, 0, [], [])), (83, (.goto (-35), 86, 48, 0, 0, [], [])), (86, (.iload_n 2, 87, 0, 0, 0, [], [])), (87, (.ireturn, 88, 0, 0, 0, [], []))]]
noncomputable abbrev zT_104 : zT := (11, zI_104, 1, 5) -- X11_prop
noncomputable def zI_105 : List (List (Nat × zE)) := [[(0, (.aload_n 0, 1, 0, 0, 0, [], [])), (1, (.invokevirtual 203, 4, 0, 0, 0, [], [])), (4, (.istore_n 1, 5, 0, 0, 0, [], [])), (5, (.iconst 0, 6, 0, 0, 0, [], [])), (6, (.istore_n 2, 7, 0, 0, 0, [], [])), (7, (.iload_n 2, 8, 0, 0, 0, [], [false, true, true])), (8, (.bipush 9, 10, 0, 9, 0, [], [])), (10, (.if_icmp .gt 19, 13, 29, 0, 0, [], [])), (13, (.iload_n 1, 14, 0, 0, 0, [], [])), (14, (.iload_n 2, 15, 0, 0, 0, [], [])), (15, (.invokestatic 206, 18, 0, 0, 0, [], [])), (18, (.ifCond .eq 5, 21, 23, 0, 0, [], [])), (21, (.iload_n 2, 22, 0, 0, 0, [], [])), (22, (.ireturn, 23, 0, 0, 0, [], [])), (23, (.iinc 2 1, 26, 0, 1, 0, [], [])), (26, (.goto (-19), 29, 7, 0, 0, [], [])), (29, (.bipush (-3), 31, 0, (-3), 0, [], [])), (31, (.ireturn, 32, 0, 0, 0, [], []))]]
noncomputable abbrev zT_105 : zT := (11, zI_105, 1, 3) -- X11_windFor
noncomputable def zI_106 : List (List (Nat × zE)) := [[(0, (.aload_n 0, 1, 0, 0, 0, [], [])), (1, (.getfield 16, 4, 0, 0, 0, [], [])), (4, (.aload_n 0, 5, 0, 0, 0, [], [])), (5, (.getfield 10, 8, 0, 0, 0, [], [])), (8, (.invokevirtual 183, 11, 0, 0, 0, [], [])), (11, (.iconst 0, 12, 0, 0, 0, [], [])), (12, (.istore_n 1, 13, 0, 0, 0, [], [])), (13, (.iload_n 1, 14, 0, 0, 0, [], [true, true])), (14, (.bipush 9, 16, 0, 9, 0, [], [])), (16, (.if_icmp .gt 39, 19, 55, 0, 0, [], [])), (19, (.aload_n 0, 20, 0, 0, 0, [], [])), (20, (.getfield 16, 23, 0, 0, 0, [], [])), (23, (.getfield 68, 26, 0, 0, 0, [], [])), (26, (.iload_n 1, 27, 0, 0, 0, [], [])), (27, (.putfield 119, 30, 0, 0, 0, [], [])), (30, (.aload_n 0, 31, 0, 0, 0, [], [])), (31, (.getfield 16, 34, 0, 0, 0, [], []))],
  [(34, (.invokevirtual 170, 37, 0, 0, 0, [], [])), (37, (.aload_n 0, 38, 0, 0, 0, [], [])), (38, (.getfield 16, 41, 0, 0, 0, [], [])), (41, (.invokevirtual 173, 44, 0, 0, 0, [], [])), (44, (.ifCond .ne 5, 47, 49, 0, 0, [], [])), (47, (.iload_n 1, 48, 0, 0, 0, [], [])), (48, (.ireturn, 49, 0, 0, 0, [], [])), (49, (.iinc 1 1, 52, 0, 1, 0, [], [])), (52, (.goto (-39), 55, 13, 0, 0, [], [])), (55, (.bipush (-3), 57, 0, (-3), 0, [], [])), (57, (.ireturn, 58, 0, 0, 0, [], []))]]
noncomputable abbrev zT_106 : zT := (11, zI_106, 1, 2) -- X11_sapFor
noncomputable def zI_107 : List (List (Nat × zE)) := [[(0, (.aload_n 0, 1, 0, 0, 0, [], [])), (1, (.getfield 16, 4, 0, 0, 0, [], [])), (4, (.aload_n 0, 5, 0, 0, 0, [], [])), (5, (.getfield 10, 8, 0, 0, 0, [], [])), (8, (.invokevirtual 183, 11, 0, 0, 0, [], [])), (11, (.aload_n 0, 12, 0, 0, 0, [], [])), (12, (.getfield 16, 15, 0, 0, 0, [], [])), (15, (.getfield 149, 18, 0, 0, 0, [], [])), (18, (.getfield 167, 21, 0, 0, 0, [], [])), (21, (.iload_n 1, 22, 0, 0, 0, [], [])), (22, (.bipush (-9), 24, 0, (-9), 0, [], [])), (24, (.iastore, 25, 0, 0, 0, [], [])), (25, (.aload_n 0, 26, 0, 0, 0, [], [])), (26, (.getfield 16, 29, 0, 0, 0, [], [])), (29, (.invokevirtual 170, 32, 0, 0, 0, [], []))],
  [(32, (.return_, 33, 0, 0, 0, [], []))]]
noncomputable abbrev zT_107 : zT := (11, zI_107, 0, 2) -- X11_tryWithout
noncomputable def zI_108 : List (List (Nat × zE)) := [[(0, (.aload_n 0, 1, 0, 0, 0, [], [])), (1, (.getfield 16, 4, 0, 0, 0, [], [])), (4, (.aload_n 0, 5, 0, 0, 0, [], [])), (5, (.getfield 10, 8, 0, 0, 0, [], [])), (8, (.invokevirtual 183, 11, 0, 0, 0, [], [])), (11, (.aload_n 0, 12, 0, 0, 0, [], [])), (12, (.getfield 16, 15, 0, 0, 0, [], [])), (15, (.getfield 68, 18, 0, 0, 0, [], [])), (18, (.getfield 92, 21, 0, 0, 0, [], [])), (21, (.iload_n 1, 22, 0, 0, 0, [], [])), (22, (.iconst 4, 23, 0, 4, 0, [], [])), (23, (.iastore, 24, 0, 0, 0, [], [])), (24, (.aload_n 0, 25, 0, 0, 0, [], [])), (25, (.getfield 16, 28, 0, 0, 0, [], [])), (28, (.invokevirtual 180, 31, 0, 0, 0, [], [])), (31, (.pop, 32, 0, 0, 0, [], []))],
  [(32, (.aload_n 0, 33, 0, 0, 0, [], [])), (33, (.getfield 16, 36, 0, 0, 0, [], [])), (36, (.getfield 149, 39, 0, 0, 0, [], [])), (39, (.iconst 0, 40, 0, 0, 0, [], [])), (40, (.invokevirtual 186, 43, 0, 0, 0, [], [])), (43, (.aload_n 0, 44, 0, 0, 0, [], [])), (44, (.getfield 16, 47, 0, 0, 0, [], [])), (47, (.getfield 149, 50, 0, 0, 0, [], [])), (50, (.iconst 1, 51, 0, 1, 0, [], [])), (51, (.invokevirtual 186, 54, 0, 0, 0, [], [])), (54, (.iadd, 55, 0, 0, 0, [], [])), (55, (.ireturn, 56, 0, 0, 0, [], []))]]
noncomputable abbrev zT_108 : zT := (11, zI_108, 1, 2) -- X11_seatedIfPropped
noncomputable def zI_109 : List (List (Nat × zE)) := [[(0, (.aload_n 0, 1, 0, 0, 0, [], [])), (1, (.getfield 16, 4, 0, 0, 0, [], [])), (4, (.aload_n 0, 5, 0, 0, 0, [], [])), (5, (.getfield 10, 8, 0, 0, 0, [], [])), (8, (.invokevirtual 183, 11, 0, 0, 0, [], [])), (11, (.iconst 0, 12, 0, 0, 0, [], [])), (12, (.istore_n 1, 13, 0, 0, 0, [], [])), (13, (.iconst 0, 14, 0, 0, 0, [], [])), (14, (.istore_n 2, 15, 0, 0, 0, [], [])), (15, (.iload_n 2, 16, 0, 0, 0, [], [true, true, true])), (16, (.bipush 9, 18, 0, 9, 0, [], [])), (18, (.if_icmp .gt 43, 21, 61, 0, 0, [], [])), (21, (.aload_n 0, 22, 0, 0, 0, [], [])), (22, (.getfield 16, 25, 0, 0, 0, [], [])), (25, (.getfield 68, 28, 0, 0, 0, [], [])), (28, (.iload_n 2, 29, 0, 0, 0, [], [])), (29, (.putfield 122, 32, 0, 0, 0, [], []))],
  [(32, (.aload_n 0, 33, 0, 0, 0, [], [])), (33, (.getfield 16, 36, 0, 0, 0, [], [])), (36, (.invokevirtual 170, 39, 0, 0, 0, [], [])), (39, (.aload_n 0, 40, 0, 0, 0, [], [])), (40, (.getfield 16, 43, 0, 0, 0, [], [])), (43, (.invokevirtual 173, 46, 0, 0, 0, [], [])), (46, (.ifCond .eq 9, 49, 55, 0, 0, [], [])), (49, (.iload_n 1, 50, 0, 0, 0, [], [])), (50, (.iconst 1, 51, 0, 1, 0, [], [])), (51, (.iload_n 2, 52, 0, 0, 0, [], [])), (52, (.ishl, 53, 0, 0, 0, [], [])), (53, (.ior, 54, 0, 0, 0, [], [])), (54, (.istore_n 1, 55, 0, 0, 0, [], [])), (55, (.iinc 2 1, 58, 0, 1, 0, [], [])), (58, (.goto (-43), 61, 15, 0, 0, [], [])), (61, (.iload_n 1, 62, 0, 0, 0, [], [])), (62, (.ireturn, 63, 0, 0, 0, [], []))]]
noncomputable abbrev zT_109 : zT := (11, zI_109, 1, 3) -- X11_crackingWinds
noncomputable def zI_110 : List (List (Nat × zE)) := [[(0, (.aload_n 0, 1, 0, 0, 0, [], [])), (1, (.iload_n 1, 2, 0, 0, 0, [], [])), (2, (.invokevirtual 210, 5, 0, 0, 0, [], [])), (5, (.ifCond .eq 12, 8, 17, 0, 0, [], [])), (8, (.iload_n 2, 9, 0, 0, 0, [], [])), (9, (.iconst 0, 10, 0, 0, 0, [], [])), (10, (.iconst 3, 11, 0, 3, 0, [], [])), (11, (.invokestatic 77, 14, 0, 0, 0, [], [])), (14, (.ifCond .ne 5, 17, 19, 0, 0, [], [])), (17, (.iconst (-1), 18, 0, (-1), 0, [], [])), (18, (.ireturn, 19, 0, 0, 0, [], [])), (19, (.aload_n 0, 20, 0, 0, 0, [], [])), (20, (.getfield 39, 23, 0, 0, 0, [], [])), (23, (.aload_n 0, 24, 0, 0, 0, [], [])), (24, (.getfield 10, 27, 0, 0, 0, [], [])), (27, (.iload_n 1, 28, 0, 0, 0, [], [])), (28, (.invokevirtual 213, 31, 0, 0, 0, [], [])), (31, (.ifCond .eq 14, 34, 45, 0, 0, [], []))],
  [(34, (.iload_n 2, 35, 0, 0, 0, [], [])), (35, (.aload_n 0, 36, 0, 0, 0, [], [])), (36, (.getfield 39, 39, 0, 0, 0, [], [])), (39, (.getfield 217, 42, 0, 0, 0, [], [])), (42, (.if_icmp .lt 6, 45, 48, 0, 0, [], [])), (45, (.bipush (-3), 47, 0, (-3), 0, [], [])), (47, (.ireturn, 48, 0, 0, 0, [], [])), (48, (.aload_n 0, 49, 0, 0, 0, [], [])), (49, (.getfield 39, 52, 0, 0, 0, [], [])), (52, (.getfield 218, 55, 0, 0, 0, [], [])), (55, (.iload_n 2, 56, 0, 0, 0, [], [])), (56, (.iaload, 57, 0, 0, 0, [], [])), (57, (.ireturn, 58, 0, 0, 0, [], []))]]
noncomputable abbrev zT_110 : zT := (11, zI_110, 1, 3) -- X11_seat
noncomputable def zI_111 : List (List (Nat × zE)) := [[(0, (.aload_n 0, 1, 0, 0, 0, [], [])), (1, (.iload_n 1, 2, 0, 0, 0, [], [])), (2, (.invokevirtual 210, 5, 0, 0, 0, [], [])), (5, (.ifCond .ne 5, 8, 10, 0, 0, [], [])), (8, (.iconst (-1), 9, 0, (-1), 0, [], [])), (9, (.ireturn, 10, 0, 0, 0, [], [])), (10, (.aload_n 0, 11, 0, 0, 0, [], [])), (11, (.getfield 39, 14, 0, 0, 0, [], [])), (14, (.aload_n 0, 15, 0, 0, 0, [], [])), (15, (.getfield 10, 18, 0, 0, 0, [], [])), (18, (.iload_n 1, 19, 0, 0, 0, [], [])), (19, (.invokevirtual 213, 22, 0, 0, 0, [], [])), (22, (.ifCond .ne 6, 25, 28, 0, 0, [], [])), (25, (.bipush (-3), 27, 0, (-3), 0, [], [])), (27, (.ireturn, 28, 0, 0, 0, [], [])), (28, (.iconst 0, 29, 0, 0, 0, [], [])), (29, (.istore_n 2, 30, 0, 0, 0, [], [])), (30, (.iload_n 2, 31, 0, 0, 0, [], [true, false, true])), (31, (.aload_n 0, 32, 0, 0, 0, [], []))],
  [(32, (.getfield 39, 35, 0, 0, 0, [], [])), (35, (.getfield 217, 38, 0, 0, 0, [], [])), (38, (.if_icmp .ge 38, 41, 76, 0, 0, [], [])), (41, (.aload_n 0, 42, 0, 0, 0, [], [])), (42, (.getfield 10, 45, 0, 0, 0, [], [])), (45, (.getfield 149, 48, 0, 0, 0, [], [])), (48, (.getfield 167, 51, 0, 0, 0, [], [])), (51, (.aload_n 0, 52, 0, 0, 0, [], [])), (52, (.getfield 39, 55, 0, 0, 0, [], [])), (55, (.getfield 219, 58, 0, 0, 0, [], [])), (58, (.iload_n 2, 59, 0, 0, 0, [], [])), (59, (.iaload, 60, 0, 0, 0, [], [])), (60, (.aload_n 0, 61, 0, 0, 0, [], [])), (61, (.getfield 39, 64, 0, 0, 0, [], []))],
  [(64, (.getfield 218, 67, 0, 0, 0, [], [])), (67, (.iload_n 2, 68, 0, 0, 0, [], [])), (68, (.iaload, 69, 0, 0, 0, [], [])), (69, (.iastore, 70, 0, 0, 0, [], [])), (70, (.iinc 2 1, 73, 0, 1, 0, [], [])), (73, (.goto (-43), 76, 30, 0, 0, [], [])), (76, (.aload_n 0, 77, 0, 0, 0, [], [])), (77, (.getfield 39, 80, 0, 0, 0, [], [])), (80, (.getfield 217, 83, 0, 0, 0, [], [])), (83, (.ireturn, 84, 0, 0, 0, [], []))]]
noncomputable abbrev zT_111 : zT := (11, zI_111, 1, 3) -- X11_seatAll
noncomputable def zI_112 : List (List (Nat × zE)) := [[(0, (.iload_n 1, 1, 0, 0, 0, [], [])), (1, (.invokestatic 146, 4, 0, 0, 0, [], [])), (4, (.ifCond .eq 12, 7, 16, 0, 0, [], [])), (7, (.iload_n 2, 8, 0, 0, 0, [], [])), (8, (.iconst 1, 9, 0, 1, 0, [], [])), (9, (.iconst 4, 10, 0, 4, 0, [], [])), (10, (.invokestatic 77, 13, 0, 0, 0, [], [])), (13, (.ifCond .ne 5, 16, 18, 0, 0, [], [])), (16, (.iconst (-1), 17, 0, (-1), 0, [], [])), (17, (.ireturn, 18, 0, 0, 0, [], [])), (18, (.aload_n 0, 19, 0, 0, 0, [], [])), (19, (.getfield 39, 22, 0, 0, 0, [], [])), (22, (.aload_n 0, 23, 0, 0, 0, [], [])), (23, (.getfield 10, 26, 0, 0, 0, [], [])), (26, (.iload_n 1, 27, 0, 0, 0, [], [])), (27, (.iload_n 2, 28, 0, 0, 0, [], [])), (28, (.invokevirtual 222, 31, 0, 0, 0, [], [])), (31, (.ireturn, 32, 0, 0, 0, [], []))]]
noncomputable abbrev zT_112 : zT := (11, zI_112, 1, 3) -- X11_game
noncomputable def zI_113 : List (List (Nat × zE)) := [[(0, (.iload_n 1, 1, 0, 0, 0, [], [])), (1, (.invokestatic 146, 4, 0, 0, 0, [], [])), (4, (.ifCond .eq 12, 7, 16, 0, 0, [], [])), (7, (.iload_n 2, 8, 0, 0, 0, [], [])), (8, (.iconst 1, 9, 0, 1, 0, [], [])), (9, (.iconst 4, 10, 0, 4, 0, [], [])), (10, (.invokestatic 77, 13, 0, 0, 0, [], [])), (13, (.ifCond .ne 5, 16, 18, 0, 0, [], [])), (16, (.iconst (-1), 17, 0, (-1), 0, [], [])), (17, (.ireturn, 18, 0, 0, 0, [], [])), (18, (.aload_n 0, 19, 0, 0, 0, [], [])), (19, (.getfield 39, 22, 0, 0, 0, [], [])), (22, (.aload_n 0, 23, 0, 0, 0, [], [])), (23, (.getfield 10, 26, 0, 0, 0, [], [])), (26, (.iload_n 1, 27, 0, 0, 0, [], [])), (27, (.iload_n 2, 28, 0, 0, 0, [], [])), (28, (.invokevirtual 226, 31, 0, 0, 0, [], [])), (31, (.ireturn, 32, 0, 0, 0, [], []))]]
noncomputable abbrev zT_113 : zT := (11, zI_113, 1, 3) -- X11_move
noncomputable def zI_114 : List (List (Nat × zE)) := [[(0, (.iload_n 1, 1, 0, 0, 0, [], [])), (1, (.aload_n 0, 2, 0, 0, 0, [], [])), (2, (.getfield 10, 5, 0, 0, 0, [], [])), (5, (.getfield 149, 8, 0, 0, 0, [], [])), (8, (.getfield 153, 11, 0, 0, 0, [], [])), (11, (.iushr, 12, 0, 0, 0, [], [])), (12, (.ifCond .ne 15, 15, 27, 0, 0, [], [])), (15, (.iload_n 1, 16, 0, 0, 0, [], [])), (16, (.invokestatic 229, 19, 0, 0, 0, [], [])), (19, (.iconst 4, 20, 0, 4, 0, [], [])), (20, (.if_icmp .gt 7, 23, 27, 0, 0, [], [])), (23, (.iconst 1, 24, 0, 1, 0, [], [])), (24, (.goto 4, 27, 28, 0, 0, [], [])), (27, (.iconst 0, 28, 0, 0, 0, [], [])), (28, (.ireturn, 29, 0, 0, 0, [], []))]]
noncomputable abbrev zT_114 : zT := (11, zI_114, 3, 2) -- X11_isSeatable
noncomputable def zI_115 : List (List (Nat × zE)) := [[(0, (.aload_n 0, 1, 0, 0, 0, [], [])), (1, (.getfield 10, 4, 0, 0, 0, [], [])), (4, (.getfield 68, 7, 0, 0, 0, [], [])), (7, (.iload_n 1, 8, 0, 0, 0, [], [])), (8, (.invokevirtual 72, 11, 0, 0, 0, [], [])), (11, (.ifCond .eq 12, 14, 23, 0, 0, [], [])), (14, (.iload_n 2, 15, 0, 0, 0, [], [])), (15, (.iconst 0, 16, 0, 0, 0, [], [])), (16, (.iconst 1, 17, 0, 1, 0, [], [])), (17, (.invokestatic 77, 20, 0, 0, 0, [], [])), (20, (.ifCond .ne 5, 23, 25, 0, 0, [], [])), (23, (.iconst (-1), 24, 0, (-1), 0, [], [])), (24, (.ireturn, 25, 0, 0, 0, [], [])), (25, (.aload_n 0, 26, 0, 0, 0, [], [])), (26, (.getfield 10, 29, 0, 0, 0, [], [])), (29, (.getfield 234, 32, 0, 0, 0, [], []))],
  [(32, (.getfield 238, 35, 0, 0, 0, [], [])), (35, (.bipush 6, 37, 0, 6, 0, [], [])), (37, (.if_icmp .lt 6, 40, 43, 0, 0, [], [])), (40, (.bipush (-2), 42, 0, (-2), 0, [], [])), (42, (.ireturn, 43, 0, 0, 0, [], [])), (43, (.aload_n 0, 44, 0, 0, 0, [], [])), (44, (.getfield 10, 47, 0, 0, 0, [], [])), (47, (.getfield 234, 50, 0, 0, 0, [], [])), (50, (.iload_n 1, 51, 0, 0, 0, [], [])), (51, (.iload_n 2, 52, 0, 0, 0, [], [])), (52, (.invokevirtual 241, 55, 0, 0, 0, [], [])), (55, (.ireturn, 56, 0, 0, 0, [], []))]]
noncomputable abbrev zT_115 : zT := (11, zI_115, 1, 3) -- X11_report
noncomputable def zI_116 : List (List (Nat × zE)) := [[(0, (.aload_n 0, 1, 0, 0, 0, [], [])), (1, (.getfield 10, 4, 0, 0, 0, [], [])), (4, (.getfield 234, 7, 0, 0, 0, [], [])), (7, (.getfield 238, 10, 0, 0, 0, [], [])), (10, (.istore_n 1, 11, 0, 0, 0, [], [])), (11, (.aload_n 0, 12, 0, 0, 0, [], [])), (12, (.getfield 10, 15, 0, 0, 0, [], [])), (15, (.getfield 234, 18, 0, 0, 0, [], [])), (18, (.iconst 0, 19, 0, 0, 0, [], [])), (19, (.putfield 238, 22, 0, 0, 0, [], [])), (22, (.iload_n 1, 23, 0, 0, 0, [], [])), (23, (.ireturn, 24, 0, 0, 0, [], []))]]
noncomputable abbrev zT_116 : zT := (11, zI_116, 1, 2) -- X11_forget
noncomputable def zI_117 : List (List (Nat × zE)) := [[(0, (.iload_n 1, 1, 0, 0, 0, [], [])), (1, (.iconst 0, 2, 0, 0, 0, [], [])), (2, (.iconst 2, 3, 0, 2, 0, [], [])), (3, (.invokestatic 77, 6, 0, 0, 0, [], [])), (6, (.ifCond .ne 5, 9, 11, 0, 0, [], [])), (9, (.iconst (-1), 10, 0, (-1), 0, [], [])), (10, (.ireturn, 11, 0, 0, 0, [], [])), (11, (.aload_n 0, 12, 0, 0, 0, [], [])), (12, (.getfield 10, 15, 0, 0, 0, [], [])), (15, (.invokevirtual 170, 18, 0, 0, 0, [], [])), (18, (.aload_n 0, 19, 0, 0, 0, [], [])), (19, (.getfield 10, 22, 0, 0, 0, [], [])), (22, (.getfield 234, 25, 0, 0, 0, [], [])), (25, (.aload_n 0, 26, 0, 0, 0, [], [])), (26, (.getfield 10, 29, 0, 0, 0, [], [])), (29, (.bipush (-9), 31, 0, (-9), 0, [], [])), (31, (.invokevirtual 244, 34, 0, 0, 0, [], []))],
  [(34, (.iload_n 1, 35, 0, 0, 0, [], [])), (35, (.ifCond .ne 14, 38, 49, 0, 0, [], [])), (38, (.aload_n 0, 39, 0, 0, 0, [], [])), (39, (.getfield 10, 42, 0, 0, 0, [], [])), (42, (.getfield 234, 45, 0, 0, 0, [], [])), (45, (.invokevirtual 248, 48, 0, 0, 0, [], [])), (48, (.ireturn, 49, 0, 0, 0, [], [])), (49, (.aload_n 0, 50, 0, 0, 0, [], [])), (50, (.getfield 10, 53, 0, 0, 0, [], [])), (53, (.getfield 234, 56, 0, 0, 0, [], [])), (56, (.invokevirtual 248, 59, 0, 0, 0, [], [])), (59, (.ifCond .ne 6, 62, 65, 0, 0, [], [])), (62, (.bipush (-3), 64, 0, (-3), 0, [], []))],
  [(64, (.ireturn, 65, 0, 0, 0, [], [])), (65, (.iload_n 1, 66, 0, 0, 0, [], [])), (66, (.iconst 1, 67, 0, 1, 0, [], [])), (67, (.if_icmp .ne 16, 70, 83, 0, 0, [], [])), (70, (.aload_n 0, 71, 0, 0, 0, [], [])), (71, (.getfield 10, 74, 0, 0, 0, [], [])), (74, (.getfield 234, 77, 0, 0, 0, [], [])), (77, (.getfield 251, 80, 0, 0, 0, [], [])), (80, (.goto 13, 83, 93, 0, 0, [], [])), (83, (.aload_n 0, 84, 0, 0, 0, [], [])), (84, (.getfield 10, 87, 0, 0, 0, [], [])), (87, (.getfield 234, 90, 0, 0, 0, [], [])), (90, (.getfield 254, 93, 0, 0, 0, [], [])), (93, (.ireturn, 94, 0, 0, 0, [], []))]]
noncomputable abbrev zT_117 : zT := (11, zI_117, 1, 2) -- X11_span
noncomputable def zI_118 : List (List (Nat × zE)) := [[(0, (.aload_n 0, 1, 0, 0, 0, [], [])), (1, (.getfield 10, 4, 0, 0, 0, [], [])), (4, (.invokevirtual 170, 7, 0, 0, 0, [], [])), (7, (.aload_n 0, 8, 0, 0, 0, [], [])), (8, (.getfield 10, 11, 0, 0, 0, [], [])), (11, (.getfield 234, 14, 0, 0, 0, [], [])), (14, (.aload_n 0, 15, 0, 0, 0, [], [])), (15, (.getfield 10, 18, 0, 0, 0, [], [])), (18, (.bipush (-9), 20, 0, (-9), 0, [], [])), (20, (.invokevirtual 244, 23, 0, 0, 0, [], [])), (23, (.aload_n 0, 24, 0, 0, 0, [], [])), (24, (.getfield 10, 27, 0, 0, 0, [], [])), (27, (.getfield 234, 30, 0, 0, 0, [], [])), (30, (.invokevirtual 248, 33, 0, 0, 0, [], []))],
  [(33, (.ifCond .le 6, 36, 39, 0, 0, [], [])), (36, (.bipush (-3), 38, 0, (-3), 0, [], [])), (38, (.ireturn, 39, 0, 0, 0, [], [])), (39, (.iconst 0, 40, 0, 0, 0, [], [])), (40, (.istore_n 1, 41, 0, 0, 0, [], [])), (41, (.iload_n 1, 42, 0, 0, 0, [], [true, true])), (42, (.aload_n 0, 43, 0, 0, 0, [], [])), (43, (.getfield 10, 46, 0, 0, 0, [], [])), (46, (.getfield 234, 49, 0, 0, 0, [], [])), (49, (.getfield 238, 52, 0, 0, 0, [], [])), (52, (.if_icmp .ge 39, 55, 91, 0, 0, [], [])), (55, (.aload_n 0, 56, 0, 0, 0, [], [])), (56, (.getfield 10, 59, 0, 0, 0, [], [])), (59, (.getfield 234, 62, 0, 0, 0, [], [])), (62, (.aload_n 0, 63, 0, 0, 0, [], [])), (63, (.getfield 10, 66, 0, 0, 0, [], []))],
  [(66, (.iload_n 1, 67, 0, 0, 0, [], [])), (67, (.invokevirtual 244, 70, 0, 0, 0, [], [])), (70, (.aload_n 0, 71, 0, 0, 0, [], [])), (71, (.getfield 10, 74, 0, 0, 0, [], [])), (74, (.getfield 234, 77, 0, 0, 0, [], [])), (77, (.invokevirtual 248, 80, 0, 0, 0, [], [])), (80, (.ifCond .le 5, 83, 85, 0, 0, [], [])), (83, (.iload_n 1, 84, 0, 0, 0, [], [])), (84, (.ireturn, 85, 0, 0, 0, [], [])), (85, (.iinc 1 1, 88, 0, 1, 0, [], [])), (88, (.goto (-47), 91, 41, 0, 0, [], [])), (91, (.bipush (-3), 93, 0, (-3), 0, [], [])), (93, (.ireturn, 94, 0, 0, 0, [], []))]]
noncomputable abbrev zT_118 : zT := (11, zI_118, 1, 2) -- X11_liar
noncomputable def zI_119 : List (List (Nat × zE)) := [[(0, (.aload_n 0, 1, 0, 0, 0, [], [])), (1, (.getfield 10, 4, 0, 0, 0, [], [])), (4, (.getfield 257, 7, 0, 0, 0, [], [])), (7, (.istore_n 2, 8, 0, 0, 0, [], [])), (8, (.aload_n 0, 9, 0, 0, 0, [], [])), (9, (.getfield 10, 12, 0, 0, 0, [], [])), (12, (.iload_n 1, 13, 0, 0, 0, [], [])), (13, (.putfield 257, 16, 0, 0, 0, [], [])), (16, (.iload_n 2, 17, 0, 0, 0, [], [])), (17, (.ireturn, 18, 0, 0, 0, [], []))]]
noncomputable abbrev zT_119 : zT := (11, zI_119, 1, 3) -- X11_seed
noncomputable def zI_120 : List (List (Nat × zE)) := [[(0, (.aload_n 0, 1, 0, 0, 0, [], [])), (1, (.getfield 10, 4, 0, 0, 0, [], [])), (4, (.aload_n 0, 5, 0, 0, 0, [], [])), (5, (.getfield 10, 8, 0, 0, 0, [], [])), (8, (.getfield 257, 11, 0, 0, 0, [], [])), (11, (.invokestatic 260, 14, 0, 0, 0, [], [])), (14, (.putfield 257, 17, 0, 0, 0, [], [])), (17, (.aload_n 0, 18, 0, 0, 0, [], [])), (18, (.getfield 10, 21, 0, 0, 0, [], [])), (21, (.getfield 68, 24, 0, 0, 0, [], [])), (24, (.aload_n 0, 25, 0, 0, 0, [], [])), (25, (.getfield 10, 28, 0, 0, 0, [], [])), (28, (.getfield 257, 31, 0, 0, 0, [], [])), (31, (.invokestatic 263, 34, 0, 0, 0, [], []))],
  [(34, (.putfield 122, 37, 0, 0, 0, [], [])), (37, (.aload_n 0, 38, 0, 0, 0, [], [])), (38, (.getfield 10, 41, 0, 0, 0, [], [])), (41, (.getfield 68, 44, 0, 0, 0, [], [])), (44, (.getfield 122, 47, 0, 0, 0, [], [])), (47, (.ireturn, 48, 0, 0, 0, [], []))]]
noncomputable abbrev zT_120 : zT := (11, zI_120, 1, 1) -- X11_draw
noncomputable def zI_121 : List (List (Nat × zE)) := [[(0, (.iload_n 1, 1, 0, 0, 0, [], [])), (1, (.iconst 1, 2, 0, 1, 0, [], [])), (2, (.bipush 60, 4, 0, 60, 0, [], [])), (4, (.invokestatic 77, 7, 0, 0, 0, [], [])), (7, (.ifCond .ne 5, 10, 12, 0, 0, [], [])), (10, (.iconst (-1), 11, 0, (-1), 0, [], [])), (11, (.ireturn, 12, 0, 0, 0, [], [])), (12, (.aload_n 0, 13, 0, 0, 0, [], [])), (13, (.invokevirtual 203, 16, 0, 0, 0, [], [])), (16, (.istore_n 2, 17, 0, 0, 0, [], [])), (17, (.aload_n 0, 18, 0, 0, 0, [], [])), (18, (.getfield 10, 21, 0, 0, 0, [], [])), (21, (.getfield 257, 24, 0, 0, 0, [], [])), (24, (.istore_n 3, 25, 0, 0, 0, [], [])), (25, (.iconst 0, 26, 0, 0, 0, [], [])), (26, (.istore 4, 28, 0, 0, 0, [], [])), (28, (.iconst 0, 29, 0, 0, 0, [], [])), (29, (.istore 5, 31, 0, 0, 0, [], [])), (31, (.iload 5, 33, 0, 0, 0, [], [false, true, true, true, true, true]))],
  [(33, (.iload_n 1, 34, 0, 0, 0, [], [])), (34, (.if_icmp .ge 28, 37, 62, 0, 0, [], [])), (37, (.iload_n 3, 38, 0, 0, 0, [], [])), (38, (.invokestatic 260, 41, 0, 0, 0, [], [])), (41, (.istore_n 3, 42, 0, 0, 0, [], [])), (42, (.iload_n 2, 43, 0, 0, 0, [], [])), (43, (.iload_n 3, 44, 0, 0, 0, [], [])), (44, (.invokestatic 263, 47, 0, 0, 0, [], [])), (47, (.invokestatic 206, 50, 0, 0, 0, [], [])), (50, (.ifCond .eq 6, 53, 56, 0, 0, [], [])), (53, (.iinc 4 1, 56, 0, 1, 0, [], [])), (56, (.iinc 5 1, 59, 0, 1, 0, [], [])), (59, (.goto (-28), 62, 31, 0, 0, [], [])), (62, (.iload 4, 64, 0, 0, 0, [], []))],
  [(64, (.ireturn, 65, 0, 0, 0, [], []))]]
noncomputable abbrev zT_121 : zT := (11, zI_121, 1, 6) -- X11_often
noncomputable def zI_122 : List (List (Nat × zE)) := [[(0, (.iload_n 0, 1, 0, 0, 0, [], [])), (1, (.ldc_w 266, 4, 0, 1103515245, 0, [], [])), (4, (.imul, 5, 0, 0, 0, [], [])), (5, (.sipush 12345, 8, 0, 12345, 0, [], [])), (8, (.iadd, 9, 0, 0, 0, [], [])), (9, (.ireturn, 10, 0, 0, 0, [], []))]]
noncomputable abbrev zT_122 : zT := (11, zI_122, 1, 1) -- X11_drawnFrom
noncomputable def zI_123 : List (List (Nat × zE)) := [[(0, (.iload_n 0, 1, 0, 0, 0, [], [])), (1, (.bipush 16, 3, 0, 16, 0, [], [])), (3, (.iushr, 4, 0, 0, 0, [], [])), (4, (.bipush 10, 6, 0, 10, 0, [], [])), (6, (.irem, 7, 0, 0, 0, [], [])), (7, (.ireturn, 8, 0, 0, 0, [], []))]]
noncomputable abbrev zT_123 : zT := (11, zI_123, 1, 1) -- X11_windOf
noncomputable def zI_124 : List (List (Nat × zE)) := [[(0, (.aload_n 0, 1, 0, 0, 0, [], [])), (1, (.getfield 10, 4, 0, 0, 0, [], [])), (4, (.getfield 68, 7, 0, 0, 0, [], [])), (7, (.iload_n 1, 8, 0, 0, 0, [], [])), (8, (.invokevirtual 72, 11, 0, 0, 0, [], [])), (11, (.ifCond .ne 5, 14, 16, 0, 0, [], [])), (14, (.iconst (-1), 15, 0, (-1), 0, [], [])), (15, (.ireturn, 16, 0, 0, 0, [], [])), (16, (.aload_n 0, 17, 0, 0, 0, [], [])), (17, (.getfield 46, 20, 0, 0, 0, [], [])), (20, (.aload_n 0, 21, 0, 0, 0, [], [])), (21, (.getfield 10, 24, 0, 0, 0, [], [])), (24, (.iload_n 1, 25, 0, 0, 0, [], [])), (25, (.invokevirtual 267, 28, 0, 0, 0, [], [])), (28, (.aload_n 0, 29, 0, 0, 0, [], [])), (29, (.getfield 46, 32, 0, 0, 0, [], []))],
  [(32, (.getfield 270, 35, 0, 0, 0, [], [])), (35, (.ireturn, 36, 0, 0, 0, [], []))]]
noncomputable abbrev zT_124 : zT := (11, zI_124, 1, 2) -- X11_prove
noncomputable def zI_125 : List (List (Nat × zE)) := [[(0, (.aload_n 0, 1, 0, 0, 0, [], [])), (1, (.getfield 46, 4, 0, 0, 0, [], [])), (4, (.iload_n 1, 5, 0, 0, 0, [], [])), (5, (.iload_n 2, 6, 0, 0, 0, [], [])), (6, (.invokevirtual 271, 9, 0, 0, 0, [], [])), (9, (.ifCond .eq 17, 12, 26, 0, 0, [], [])), (12, (.aload_n 0, 13, 0, 0, 0, [], [])), (13, (.getfield 46, 16, 0, 0, 0, [], [])), (16, (.getfield 274, 19, 0, 0, 0, [], [])), (19, (.iload_n 1, 20, 0, 0, 0, [], [])), (20, (.aaload, 21, 0, 0, 0, [], [])), (21, (.iload_n 2, 22, 0, 0, 0, [], [])), (22, (.iaload, 23, 0, 0, 0, [], [])), (23, (.goto 5, 26, 28, 0, 0, [], [])), (26, (.bipush (-9), 28, 0, (-9), 0, [], [])), (28, (.ireturn, 29, 0, 0, 0, [], []))]]
noncomputable abbrev zT_125 : zT := (11, zI_125, 1, 3) -- X11_row
noncomputable def zI_126 : List (List (Nat × zE)) := [[(0, (.aload_n 0, 1, 0, 0, 0, [], [])), (1, (.getfield 46, 4, 0, 0, 0, [], [])), (4, (.iload_n 1, 5, 0, 0, 0, [], [])), (5, (.iload_n 2, 6, 0, 0, 0, [], [])), (6, (.invokevirtual 271, 9, 0, 0, 0, [], [])), (9, (.ifCond .eq 20, 12, 29, 0, 0, [], [])), (12, (.aload_n 0, 13, 0, 0, 0, [], [])), (13, (.getfield 46, 16, 0, 0, 0, [], [])), (16, (.getfield 274, 19, 0, 0, 0, [], [])), (19, (.iload_n 1, 20, 0, 0, 0, [], [])), (20, (.aaload, 21, 0, 0, 0, [], [])), (21, (.iload_n 2, 22, 0, 0, 0, [], [])), (22, (.iload_n 3, 23, 0, 0, 0, [], [])), (23, (.invokestatic 115, 26, 0, 0, 0, [], [])), (26, (.goto 5, 29, 31, 0, 0, [], [])), (29, (.bipush (-9), 31, 0, (-9), 0, [], [])), (31, (.ireturn, 32, 0, 0, 0, [], []))]]
noncomputable abbrev zT_126 : zT := (11, zI_126, 1, 4) -- X11_alterRow
noncomputable def zI_127 : List (List (Nat × zE)) := [[(0, (.aload_n 0, 1, 0, 0, 0, [], [])), (1, (.getfield 46, 4, 0, 0, 0, [], [])), (4, (.aload_n 0, 5, 0, 0, 0, [], [])), (5, (.getfield 10, 8, 0, 0, 0, [], [])), (8, (.invokevirtual 278, 11, 0, 0, 0, [], [])), (11, (.ireturn, 12, 0, 0, 0, [], []))]]
noncomputable abbrev zT_127 : zT := (11, zI_127, 1, 1) -- X11_judge
noncomputable def zI_128 : List (List (Nat × zE)) := [[(0, (.iload_n 1, 1, 0, 0, 0, [], [])), (1, (.invokestatic 282, 4, 0, 0, 0, [], [])), (4, (.ifCond .eq 12, 7, 16, 0, 0, [], [])), (7, (.iload_n 2, 8, 0, 0, 0, [], [])), (8, (.iconst (-1), 9, 0, (-1), 0, [], [])), (9, (.iconst 4, 10, 0, 4, 0, [], [])), (10, (.invokestatic 77, 13, 0, 0, 0, [], [])), (13, (.ifCond .ne 5, 16, 18, 0, 0, [], [])), (16, (.iconst (-1), 17, 0, (-1), 0, [], [])), (17, (.ireturn, 18, 0, 0, 0, [], [])), (18, (.iload_n 2, 19, 0, 0, 0, [], [])), (19, (.iconst (-1), 20, 0, (-1), 0, [], [])), (20, (.if_icmp .ne 15, 23, 35, 0, 0, [], [])), (23, (.aload_n 0, 24, 0, 0, 0, [], [])), (24, (.getfield 53, 27, 0, 0, 0, [], [])), (27, (.getfield 285, 30, 0, 0, 0, [], [])), (30, (.iload_n 1, 31, 0, 0, 0, [], [])), (31, (.iconst (-1), 32, 0, (-1), 0, [], []))],
  [(32, (.iastore, 33, 0, 0, 0, [], [])), (33, (.iconst 1, 34, 0, 1, 0, [], [])), (34, (.ireturn, 35, 0, 0, 0, [], [])), (35, (.iload_n 3, 36, 0, 0, 0, [], [])), (36, (.bipush 40, 38, 0, 40, 0, [], [])), (38, (.if_icmp .le 5, 41, 43, 0, 0, [], [])), (41, (.iconst (-1), 42, 0, (-1), 0, [], [])), (42, (.ireturn, 43, 0, 0, 0, [], [])), (43, (.iload_n 3, 44, 0, 0, 0, [], [])), (44, (.ifCond .ge 6, 47, 50, 0, 0, [], [])), (47, (.bipush (-14), 49, 0, (-14), 0, [], [])), (49, (.ireturn, 50, 0, 0, 0, [], [])), (50, (.aload_n 0, 51, 0, 0, 0, [], [])), (51, (.getfield 53, 54, 0, 0, 0, [], [])), (54, (.iload_n 1, 55, 0, 0, 0, [], [])), (55, (.iload_n 2, 56, 0, 0, 0, [], [])), (56, (.iload_n 3, 57, 0, 0, 0, [], [])), (57, (.invokevirtual 288, 60, 0, 0, 0, [], [])), (60, (.iconst 1, 61, 0, 1, 0, [], [])), (61, (.ireturn, 62, 0, 0, 0, [], []))]]
noncomputable abbrev zT_128 : zT := (11, zI_128, 1, 4) -- X11_sheet
noncomputable def zI_129 : List (List (Nat × zE)) := [[(0, (.iload_n 1, 1, 0, 0, 0, [], [])), (1, (.invokestatic 282, 4, 0, 0, 0, [], [])), (4, (.ifCond .ne 5, 7, 9, 0, 0, [], [])), (7, (.iconst (-1), 8, 0, (-1), 0, [], [])), (8, (.ireturn, 9, 0, 0, 0, [], [])), (9, (.aload_n 0, 10, 0, 0, 0, [], [])), (10, (.getfield 53, 13, 0, 0, 0, [], [])), (13, (.getfield 285, 16, 0, 0, 0, [], [])), (16, (.iload_n 1, 17, 0, 0, 0, [], [])), (17, (.iaload, 18, 0, 0, 0, [], [])), (18, (.iconst (-1), 19, 0, (-1), 0, [], [])), (19, (.if_icmp .ne 6, 22, 25, 0, 0, [], [])), (22, (.bipush (-11), 24, 0, (-11), 0, [], [])), (24, (.ireturn, 25, 0, 0, 0, [], [])), (25, (.aload_n 0, 26, 0, 0, 0, [], [])), (26, (.getfield 53, 29, 0, 0, 0, [], [])), (29, (.iload_n 1, 30, 0, 0, 0, [], [])), (30, (.iload_n 2, 31, 0, 0, 0, [], [])), (31, (.invokevirtual 292, 34, 0, 0, 0, [], []))],
  [(34, (.ifCond .ne 6, 37, 40, 0, 0, [], [])), (37, (.bipush (-12), 39, 0, (-12), 0, [], [])), (39, (.ireturn, 40, 0, 0, 0, [], [])), (40, (.aload_n 0, 41, 0, 0, 0, [], [])), (41, (.getfield 53, 44, 0, 0, 0, [], [])), (44, (.getfield 295, 47, 0, 0, 0, [], [])), (47, (.iload_n 1, 48, 0, 0, 0, [], [])), (48, (.aaload, 49, 0, 0, 0, [], [])), (49, (.iload_n 2, 50, 0, 0, 0, [], [])), (50, (.aload_n 0, 51, 0, 0, 0, [], [])), (51, (.getfield 53, 54, 0, 0, 0, [], [])), (54, (.getfield 285, 57, 0, 0, 0, [], [])), (57, (.iload_n 1, 58, 0, 0, 0, [], [])), (58, (.iaload, 59, 0, 0, 0, [], [])), (59, (.iload_n 3, 60, 0, 0, 0, [], [])), (60, (.invokestatic 299, 63, 0, 0, 0, [], [])), (63, (.lastore, 64, 0, 0, 0, [], []))],
  [(64, (.iconst 1, 65, 0, 1, 0, [], [])), (65, (.ireturn, 66, 0, 0, 0, [], []))]]
noncomputable abbrev zT_129 : zT := (11, zI_129, 1, 4) -- X11_write
noncomputable def zI_130 : List (List (Nat × zE)) := [[(0, (.iload_n 1, 1, 0, 0, 0, [], [])), (1, (.invokestatic 282, 4, 0, 0, 0, [], [])), (4, (.ifCond .eq 12, 7, 16, 0, 0, [], [])), (7, (.iload_n 2, 8, 0, 0, 0, [], [])), (8, (.iconst 0, 9, 0, 0, 0, [], [])), (9, (.iconst 4, 10, 0, 4, 0, [], [])), (10, (.invokestatic 77, 13, 0, 0, 0, [], [])), (13, (.ifCond .ne 5, 16, 18, 0, 0, [], [])), (16, (.iconst (-1), 17, 0, (-1), 0, [], [])), (17, (.ireturn, 18, 0, 0, 0, [], [])), (18, (.aload_n 0, 19, 0, 0, 0, [], [])), (19, (.getfield 53, 22, 0, 0, 0, [], [])), (22, (.iload_n 1, 23, 0, 0, 0, [], [])), (23, (.iload_n 2, 24, 0, 0, 0, [], [])), (24, (.invokevirtual 303, 27, 0, 0, 0, [], [])), (27, (.istore 4, 29, 0, 0, 0, [], [])), (29, (.iload 4, 31, 0, 0, 0, [], [])), (31, (.ifCond .eq 6, 34, 37, 0, 0, [], []))],
  [(34, (.iload 4, 36, 0, 0, 0, [], [])), (36, (.ireturn, 37, 0, 0, 0, [], [])), (37, (.aload_n 0, 38, 0, 0, 0, [], [])), (38, (.getfield 53, 41, 0, 0, 0, [], [])), (41, (.iload_n 1, 42, 0, 0, 0, [], [])), (42, (.iload_n 3, 43, 0, 0, 0, [], [])), (43, (.invokevirtual 292, 46, 0, 0, 0, [], [])), (46, (.ifCond .ne 6, 49, 52, 0, 0, [], [])), (49, (.bipush (-12), 51, 0, (-12), 0, [], [])), (51, (.ireturn, 52, 0, 0, 0, [], [])), (52, (.aload_n 0, 53, 0, 0, 0, [], [])), (53, (.getfield 53, 56, 0, 0, 0, [], [])), (56, (.getfield 295, 59, 0, 0, 0, [], [])), (59, (.iload_n 1, 60, 0, 0, 0, [], [])), (60, (.aaload, 61, 0, 0, 0, [], [])), (61, (.iload_n 3, 62, 0, 0, 0, [], [])), (62, (.laload, 63, 0, 0, 0, [], [])), (63, (.l2i, 64, 0, 0, 0, [], []))],
  [(64, (.ireturn, 65, 0, 0, 0, [], []))]]
noncomputable abbrev zT_130 : zT := (11, zI_130, 1, 5) -- X11_item
noncomputable def zI_131 : List (List (Nat × zE)) := [[(0, (.aload_n 0, 1, 0, 0, 0, [], [])), (1, (.getfield 10, 4, 0, 0, 0, [], [])), (4, (.getfield 149, 7, 0, 0, 0, [], [])), (7, (.iload_n 1, 8, 0, 0, 0, [], [])), (8, (.invokevirtual 160, 11, 0, 0, 0, [], [])), (11, (.ifCond .eq 21, 14, 32, 0, 0, [], [])), (14, (.iload_n 2, 15, 0, 0, 0, [], [])), (15, (.invokestatic 282, 18, 0, 0, 0, [], [])), (18, (.ifCond .eq 14, 21, 32, 0, 0, [], [])), (21, (.iload 4, 23, 0, 0, 0, [], [])), (23, (.iconst 0, 24, 0, 0, 0, [], [])), (24, (.bipush 20, 26, 0, 20, 0, [], [])), (26, (.invokestatic 77, 29, 0, 0, 0, [], [])), (29, (.ifCond .ne 5, 32, 34, 0, 0, [], []))],
  [(32, (.iconst (-1), 33, 0, (-1), 0, [], [])), (33, (.ireturn, 34, 0, 0, 0, [], [])), (34, (.aload_n 0, 35, 0, 0, 0, [], [])), (35, (.getfield 53, 38, 0, 0, 0, [], [])), (38, (.iload_n 2, 39, 0, 0, 0, [], [])), (39, (.iconst 0, 40, 0, 0, 0, [], [])), (40, (.invokevirtual 303, 43, 0, 0, 0, [], [])), (43, (.istore 5, 45, 0, 0, 0, [], [])), (45, (.iload 5, 47, 0, 0, 0, [], [])), (47, (.ifCond .eq 6, 50, 53, 0, 0, [], [])), (50, (.iload 5, 52, 0, 0, 0, [], [])), (52, (.ireturn, 53, 0, 0, 0, [], [])), (53, (.iconst 0, 54, 0, 0, 0, [], [])), (54, (.istore 6, 56, 0, 0, 0, [], [])), (56, (.iconst 0, 57, 0, 0, 0, [], [])), (57, (.istore 7, 59, 0, 0, 0, [], [])), (59, (.iload 7, 61, 0, 0, 0, [], [true, true, true, true, true, false, true, true, false])), (61, (.iload 4, 63, 0, 0, 0, [], [])), (63, (.if_icmp .ge 76, 66, 139, 0, 0, [], []))],
  [(66, (.aload_n 0, 67, 0, 0, 0, [], [])), (67, (.getfield 53, 70, 0, 0, 0, [], [])), (70, (.iload_n 2, 71, 0, 0, 0, [], [])), (71, (.iload_n 3, 72, 0, 0, 0, [], [])), (72, (.iload 7, 74, 0, 0, 0, [], [])), (74, (.iadd, 75, 0, 0, 0, [], [])), (75, (.invokevirtual 292, 78, 0, 0, 0, [], [])), (78, (.ifCond .ne 6, 81, 84, 0, 0, [], [])), (81, (.bipush (-12), 83, 0, (-12), 0, [], [])), (83, (.ireturn, 84, 0, 0, 0, [], [])), (84, (.aload_n 0, 85, 0, 0, 0, [], [])), (85, (.getfield 53, 88, 0, 0, 0, [], [])), (88, (.getfield 295, 91, 0, 0, 0, [], [])), (91, (.iload_n 2, 92, 0, 0, 0, [], [])), (92, (.aaload, 93, 0, 0, 0, [], [])), (93, (.iload_n 3, 94, 0, 0, 0, [], [])), (94, (.iload 7, 96, 0, 0, 0, [], []))],
  [(96, (.iadd, 97, 0, 0, 0, [], [])), (97, (.laload, 98, 0, 0, 0, [], [])), (98, (.l2i, 99, 0, 0, 0, [], [])), (99, (.istore 8, 101, 0, 0, 0, [], [])), (101, (.aload_n 0, 102, 0, 0, 0, [], [])), (102, (.getfield 10, 105, 0, 0, 0, [], [])), (105, (.getfield 68, 108, 0, 0, 0, [], [])), (108, (.iload 8, 110, 0, 0, 0, [], [])), (110, (.invokevirtual 85, 113, 0, 0, 0, [], [])), (113, (.ifCond .eq 20, 116, 133, 0, 0, [], [])), (116, (.aload_n 0, 117, 0, 0, 0, [], [])), (117, (.getfield 10, 120, 0, 0, 0, [], [])), (120, (.getfield 149, 123, 0, 0, 0, [], [])), (123, (.getfield 167, 126, 0, 0, 0, [], [])), (126, (.iload_n 1, 127, 0, 0, 0, [], [])), (127, (.iload 8, 129, 0, 0, 0, [], []))],
  [(129, (.iastore, 130, 0, 0, 0, [], [])), (130, (.iinc 6 1, 133, 0, 1, 0, [], [])), (133, (.iinc 7 1, 136, 0, 1, 0, [], [])), (136, (.goto (-77), 139, 59, 0, 0, [], [])), (139, (.iload 6, 141, 0, 0, 0, [], [])), (141, (.ireturn, 142, 0, 0, 0, [], []))]]
noncomputable abbrev zT_131 : zT := (11, zI_131, 1, 9) -- X11_climbs
noncomputable def zI_132 : List (List (Nat × zE)) := [[(0, (.iload_n 1, 1, 0, 0, 0, [], [])), (1, (.invokestatic 282, 4, 0, 0, 0, [], [])), (4, (.ifCond .ne 5, 7, 9, 0, 0, [], [])), (7, (.iconst (-1), 8, 0, (-1), 0, [], [])), (8, (.ireturn, 9, 0, 0, 0, [], [])), (9, (.iload_n 2, 10, 0, 0, 0, [], [])), (10, (.tableswitch 83 0 2 #[26, 53, 73], 36, 93, 0, 0, [(0, 36), (1, 63), (2, 83)], []))],
  [(36, (.aload_n 0, 37, 0, 0, 0, [], [])), (37, (.getfield 10, 40, 0, 0, 0, [], [])), (40, (.getfield 68, 43, 0, 0, 0, [], [])), (43, (.iload_n 3, 44, 0, 0, 0, [], [])), (44, (.invokevirtual 72, 47, 0, 0, 0, [], [])), (47, (.ifCond .ne 5, 50, 52, 0, 0, [], [])), (50, (.iconst (-1), 51, 0, (-1), 0, [], [])), (51, (.ireturn, 52, 0, 0, 0, [], [])), (52, (.aload_n 0, 53, 0, 0, 0, [], [])), (53, (.getfield 53, 56, 0, 0, 0, [], [])), (56, (.iload_n 1, 57, 0, 0, 0, [], [])), (57, (.iload_n 3, 58, 0, 0, 0, [], [])), (58, (.invokevirtual 306, 61, 0, 0, 0, [], [])), (61, (.iconst 1, 62, 0, 1, 0, [], [])), (62, (.ireturn, 63, 0, 0, 0, [], [])), (63, (.iload_n 3, 64, 0, 0, 0, [], []))],
  [(64, (.invokestatic 282, 67, 0, 0, 0, [], [])), (67, (.ifCond .ne 5, 70, 72, 0, 0, [], [])), (70, (.iconst (-1), 71, 0, (-1), 0, [], [])), (71, (.ireturn, 72, 0, 0, 0, [], [])), (72, (.aload_n 0, 73, 0, 0, 0, [], [])), (73, (.getfield 53, 76, 0, 0, 0, [], [])), (76, (.iload_n 1, 77, 0, 0, 0, [], [])), (77, (.iload_n 3, 78, 0, 0, 0, [], [])), (78, (.invokevirtual 309, 81, 0, 0, 0, [], [])), (81, (.iconst 1, 82, 0, 1, 0, [], [])), (82, (.ireturn, 83, 0, 0, 0, [], [])), (83, (.aload_n 0, 84, 0, 0, 0, [], [])), (84, (.getfield 53, 87, 0, 0, 0, [], [])), (87, (.iload_n 1, 88, 0, 0, 0, [], [])), (88, (.invokevirtual 312, 91, 0, 0, 0, [], [])), (91, (.iconst 1, 92, 0, 1, 0, [], [])), (92, (.ireturn, 93, 0, 0, 0, [], [])), (93, (.iconst (-1), 94, 0, (-1), 0, [], [])), (94, (.ireturn, 95, 0, 0, 0, [], []))]]
noncomputable abbrev zT_132 : zT := (11, zI_132, 1, 4) -- X11_shelf
noncomputable def zI_133 : List (List (Nat × zE)) := [[(0, (.iload_n 2, 1, 0, 0, 0, [], [])), (1, (.iconst 0, 2, 0, 0, 0, [], [])), (2, (.iconst 5, 3, 0, 5, 0, [], [])), (3, (.invokestatic 77, 6, 0, 0, 0, [], [])), (6, (.istore_n 3, 7, 0, 0, 0, [], [])), (7, (.iload_n 1, 8, 0, 0, 0, [], [])), (8, (.invokestatic 282, 11, 0, 0, 0, [], [])), (11, (.ifCond .eq 18, 14, 29, 0, 0, [], [])), (14, (.iload_n 3, 15, 0, 0, 0, [], [])), (15, (.ifCond .ne 16, 18, 31, 0, 0, [], [])), (18, (.iload_n 2, 19, 0, 0, 0, [], [])), (19, (.bipush 10, 21, 0, 10, 0, [], [])), (21, (.bipush 14, 23, 0, 14, 0, [], [])), (23, (.invokestatic 77, 26, 0, 0, 0, [], [])), (26, (.ifCond .ne 5, 29, 31, 0, 0, [], [])), (29, (.iconst (-1), 30, 0, (-1), 0, [], [])), (30, (.ireturn, 31, 0, 0, 0, [], [])), (31, (.aload_n 0, 32, 0, 0, 0, [], [true, true, true, true, false]))],
  [(32, (.getfield 53, 35, 0, 0, 0, [], [])), (35, (.iload_n 1, 36, 0, 0, 0, [], [])), (36, (.invokevirtual 315, 39, 0, 0, 0, [], [])), (39, (.ifCond .eq 34, 42, 73, 0, 0, [], [])), (42, (.aload_n 0, 43, 0, 0, 0, [], [])), (43, (.getfield 53, 46, 0, 0, 0, [], [])), (46, (.getfield 318, 49, 0, 0, 0, [], [])), (49, (.iload_n 1, 50, 0, 0, 0, [], [])), (50, (.iaload, 51, 0, 0, 0, [], [])), (51, (.iload_n 2, 52, 0, 0, 0, [], [])), (52, (.bipush 10, 54, 0, 10, 0, [], [])), (54, (.isub, 55, 0, 0, 0, [], [])), (55, (.if_icmp .ne 15, 58, 70, 0, 0, [], [])), (58, (.aload_n 0, 59, 0, 0, 0, [], [])), (59, (.getfield 53, 62, 0, 0, 0, [], [])), (62, (.getfield 321, 65, 0, 0, 0, [], []))],
  [(65, (.iload_n 1, 66, 0, 0, 0, [], [])), (66, (.iaload, 67, 0, 0, 0, [], [])), (67, (.goto 5, 70, 72, 0, 0, [], [])), (70, (.bipush (-13), 72, 0, (-13), 0, [], [])), (72, (.ireturn, 73, 0, 0, 0, [], [])), (73, (.aload_n 0, 74, 0, 0, 0, [], [])), (74, (.iload_n 1, 75, 0, 0, 0, [], [])), (75, (.invokevirtual 324, 78, 0, 0, 0, [], [])), (78, (.istore 4, 80, 0, 0, 0, [], [])), (80, (.iload 4, 82, 0, 0, 0, [], [])), (82, (.bipush (-9), 84, 0, (-9), 0, [], [])), (84, (.if_icmp .ne 6, 87, 90, 0, 0, [], [])), (87, (.bipush (-11), 89, 0, (-11), 0, [], [])), (89, (.ireturn, 90, 0, 0, 0, [], [])), (90, (.iload_n 3, 91, 0, 0, 0, [], [])), (91, (.ifCond .eq 28, 94, 119, 0, 0, [], [])), (94, (.aload_n 0, 95, 0, 0, 0, [], [])), (95, (.getfield 10, 98, 0, 0, 0, [], []))],
  [(98, (.getfield 68, 101, 0, 0, 0, [], [])), (101, (.getfield 92, 104, 0, 0, 0, [], [])), (104, (.iload 4, 106, 0, 0, 0, [], [])), (106, (.iaload, 107, 0, 0, 0, [], [])), (107, (.iload_n 2, 108, 0, 0, 0, [], [])), (108, (.invokestatic 327, 111, 0, 0, 0, [], [])), (111, (.ifCond .eq 8, 114, 119, 0, 0, [], [])), (114, (.iload 4, 116, 0, 0, 0, [], [])), (116, (.goto 5, 119, 121, 0, 0, [], [])), (119, (.bipush (-13), 121, 0, (-13), 0, [], [])), (121, (.ireturn, 122, 0, 0, 0, [], []))]]
noncomputable abbrev zT_133 : zT := (11, zI_133, 1, 5) -- X11_taken
noncomputable def zI_134 : List (List (Nat × zE)) := [[(0, (.aload_n 0, 1, 0, 0, 0, [], [])), (1, (.getfield 60, 4, 0, 0, 0, [], [])), (4, (.iconst 0, 5, 0, 0, 0, [], [])), (5, (.putfield 330, 8, 0, 0, 0, [], [])), (8, (.iload_n 1, 9, 0, 0, 0, [], [])), (9, (.invokestatic 282, 12, 0, 0, 0, [], [])), (12, (.ifCond .eq 12, 15, 24, 0, 0, [], [])), (15, (.iload_n 2, 16, 0, 0, 0, [], [])), (16, (.iconst 0, 17, 0, 0, 0, [], [])), (17, (.iconst 3, 18, 0, 3, 0, [], [])), (18, (.invokestatic 77, 21, 0, 0, 0, [], [])), (21, (.ifCond .ne 5, 24, 26, 0, 0, [], [])), (24, (.iconst 0, 25, 0, 0, 0, [], [])), (25, (.ireturn, 26, 0, 0, 0, [], [])), (26, (.aload_n 0, 27, 0, 0, 0, [], [])), (27, (.iload_n 1, 28, 0, 0, 0, [], [])), (28, (.invokevirtual 324, 31, 0, 0, 0, [], [])), (31, (.istore 4, 33, 0, 0, 0, [], []))],
  [(33, (.iload 4, 35, 0, 0, 0, [], [])), (35, (.bipush (-9), 37, 0, (-9), 0, [], [])), (37, (.if_icmp .ne 5, 40, 42, 0, 0, [], [])), (40, (.iconst 0, 41, 0, 0, 0, [], [])), (41, (.ireturn, 42, 0, 0, 0, [], [])), (42, (.aload_n 0, 43, 0, 0, 0, [], [])), (43, (.getfield 60, 46, 0, 0, 0, [], [])), (46, (.aload_n 0, 47, 0, 0, 0, [], [])), (47, (.getfield 10, 50, 0, 0, 0, [], [])), (50, (.getfield 68, 53, 0, 0, 0, [], [])), (53, (.getfield 92, 56, 0, 0, 0, [], [])), (56, (.iload 4, 58, 0, 0, 0, [], [])), (58, (.iaload, 59, 0, 0, 0, [], [])), (59, (.iload 4, 61, 0, 0, 0, [], [])), (61, (.aload_n 0, 62, 0, 0, 0, [], [])), (62, (.getfield 10, 65, 0, 0, 0, [], []))],
  [(65, (.getfield 68, 68, 0, 0, 0, [], [])), (68, (.getfield 99, 71, 0, 0, 0, [], [])), (71, (.iload 4, 73, 0, 0, 0, [], [])), (73, (.iaload, 74, 0, 0, 0, [], [])), (74, (.invokevirtual 333, 77, 0, 0, 0, [], [])), (77, (.iload_n 2, 78, 0, 0, 0, [], [])), (78, (.tableswitch 65 0 2 #[26, 39, 52], 104, 143, 0, 0, [(0, 104), (1, 117), (2, 130)], []))],
  [(104, (.aload_n 0, 105, 0, 0, 0, [], [])), (105, (.getfield 60, 108, 0, 0, 0, [], [])), (108, (.iload_n 3, 109, 0, 0, 0, [], [])), (109, (.invokevirtual 336, 112, 0, 0, 0, [], [])), (112, (.istore 5, 114, 0, 0, 0, [], [])), (114, (.goto 39, 117, 153, 0, 0, [], [])), (117, (.aload_n 0, 118, 0, 0, 0, [], [])), (118, (.getfield 60, 121, 0, 0, 0, [], [])), (121, (.iload_n 3, 122, 0, 0, 0, [], [])), (122, (.invokevirtual 339, 125, 0, 0, 0, [], [])), (125, (.istore 5, 127, 0, 0, 0, [], [])), (127, (.goto 26, 130, 153, 0, 0, [], []))],
  [(130, (.aload_n 0, 131, 0, 0, 0, [], [])), (131, (.getfield 60, 134, 0, 0, 0, [], [])), (134, (.iload_n 3, 135, 0, 0, 0, [], [])), (135, (.invokevirtual 342, 138, 0, 0, 0, [], [])), (138, (.istore 5, 140, 0, 0, 0, [], [])), (140, (.goto 13, 143, 153, 0, 0, [], [])), (143, (.aload_n 0, 144, 0, 0, 0, [], [])), (144, (.getfield 60, 147, 0, 0, 0, [], [])), (147, (.iload_n 3, 148, 0, 0, 0, [], [])), (148, (.invokevirtual 345, 151, 0, 0, 0, [], [])), (151, (.istore 5, 153, 0, 0, 0, [], [])), (153, (.aload_n 0, 154, 0, 0, 0, [], [])), (154, (.getfield 60, 157, 0, 0, 0, [], [])), (157, (.getfield 348, 160, 0, 0, 0, [], []))],
  [(160, (.ifCond .eq 8, 163, 168, 0, 0, [], [])), (163, (.bipush (-15), 165, 0, (-15), 0, [], [])), (165, (.goto 5, 168, 170, 0, 0, [], [])), (168, (.iload 5, 170, 0, 0, 0, [], [])), (170, (.ireturn, 171, 0, 0, 0, [], []))]]
noncomputable abbrev zT_134 : zT := (11, zI_134, 1, 6) -- X11_act
noncomputable def zI_135 : List (List (Nat × zE)) := [[(0, (.iload_n 1, 1, 0, 0, 0, [], [])), (1, (.iconst 0, 2, 0, 0, 0, [], [])), (2, (.aload_n 0, 3, 0, 0, 0, [], [])), (3, (.getfield 60, 6, 0, 0, 0, [], [])), (6, (.getfield 330, 9, 0, 0, 0, [], [])), (9, (.iconst 1, 10, 0, 1, 0, [], [])), (10, (.isub, 11, 0, 0, 0, [], [])), (11, (.invokestatic 77, 14, 0, 0, 0, [], [])), (14, (.ifCond .eq 15, 17, 29, 0, 0, [], [])), (17, (.aload_n 0, 18, 0, 0, 0, [], [])), (18, (.getfield 60, 21, 0, 0, 0, [], [])), (21, (.getfield 352, 24, 0, 0, 0, [], [])), (24, (.iload_n 1, 25, 0, 0, 0, [], [])), (25, (.iaload, 26, 0, 0, 0, [], [])), (26, (.goto 5, 29, 31, 0, 0, [], [])), (29, (.bipush (-3), 31, 0, (-3), 0, [], [])), (31, (.ireturn, 32, 0, 0, 0, [], []))]]
noncomputable abbrev zT_135 : zT := (11, zI_135, 1, 2) -- X11_trace
noncomputable def zI_136 : List (List (Nat × zE)) := [[(0, (.iload_n 1, 1, 0, 0, 0, [], [])), (1, (.tableswitch 114 0 6 #[43, 54, 68, 79, 90, 98, 106], 44, 115, 0, 0, [(0, 44), (1, 55), (2, 69), (3, 80), (4, 91), (5, 99), (6, 107)], []))],
  [(44, (.aload_n 0, 45, 0, 0, 0, [], [])), (45, (.getfield 10, 48, 0, 0, 0, [], [])), (48, (.getfield 68, 51, 0, 0, 0, [], [])), (51, (.getfield 81, 54, 0, 0, 0, [], [])), (54, (.ireturn, 55, 0, 0, 0, [], [])), (55, (.aload_n 0, 56, 0, 0, 0, [], [])), (56, (.getfield 10, 59, 0, 0, 0, [], [])), (59, (.getfield 68, 62, 0, 0, 0, [], [])), (62, (.getfield 134, 65, 0, 0, 0, [], []))],
  [(65, (.getfield 145, 68, 0, 0, 0, [], [])), (68, (.ireturn, 69, 0, 0, 0, [], [])), (69, (.aload_n 0, 70, 0, 0, 0, [], [])), (70, (.getfield 10, 73, 0, 0, 0, [], [])), (73, (.getfield 149, 76, 0, 0, 0, [], [])), (76, (.getfield 153, 79, 0, 0, 0, [], [])), (79, (.ireturn, 80, 0, 0, 0, [], [])), (80, (.aload_n 0, 81, 0, 0, 0, [], [])), (81, (.getfield 10, 84, 0, 0, 0, [], [])), (84, (.getfield 234, 87, 0, 0, 0, [], [])), (87, (.getfield 238, 90, 0, 0, 0, [], [])), (90, (.ireturn, 91, 0, 0, 0, [], [])), (91, (.aload_n 0, 92, 0, 0, 0, [], [])), (92, (.getfield 46, 95, 0, 0, 0, [], [])), (95, (.getfield 270, 98, 0, 0, 0, [], []))],
  [(98, (.ireturn, 99, 0, 0, 0, [], [])), (99, (.aload_n 0, 100, 0, 0, 0, [], [])), (100, (.getfield 25, 103, 0, 0, 0, [], [])), (103, (.getfield 125, 106, 0, 0, 0, [], [])), (106, (.ireturn, 107, 0, 0, 0, [], [])), (107, (.aload_n 0, 108, 0, 0, 0, [], [])), (108, (.getfield 60, 111, 0, 0, 0, [], [])), (111, (.getfield 330, 114, 0, 0, 0, [], [])), (114, (.ireturn, 115, 0, 0, 0, [], [])), (115, (.iconst (-1), 116, 0, (-1), 0, [], [])), (116, (.ireturn, 117, 0, 0, 0, [], []))]]
noncomputable abbrev zT_136 : zT := (11, zI_136, 1, 2) -- X11_many
noncomputable def zI_137 : List (List (Nat × zE)) := [[(0, (.aload_n 0, 1, 0, 0, 0, [], [])), (1, (.getfield 53, 4, 0, 0, 0, [], [])), (4, (.iload_n 1, 5, 0, 0, 0, [], [])), (5, (.invokevirtual 355, 8, 0, 0, 0, [], [])), (8, (.ifCond .eq 29, 11, 37, 0, 0, [], [])), (11, (.aload_n 0, 12, 0, 0, 0, [], [])), (12, (.getfield 10, 15, 0, 0, 0, [], [])), (15, (.getfield 68, 18, 0, 0, 0, [], [])), (18, (.aload_n 0, 19, 0, 0, 0, [], [])), (19, (.getfield 53, 22, 0, 0, 0, [], [])), (22, (.getfield 321, 25, 0, 0, 0, [], [])), (25, (.iload_n 1, 26, 0, 0, 0, [], [])), (26, (.iaload, 27, 0, 0, 0, [], [])), (27, (.invokevirtual 72, 30, 0, 0, 0, [], [])), (30, (.ifCond .eq 7, 33, 37, 0, 0, [], []))],
  [(33, (.iconst 1, 34, 0, 1, 0, [], [])), (34, (.goto 4, 37, 38, 0, 0, [], [])), (37, (.iconst 0, 38, 0, 0, 0, [], [])), (38, (.istore_n 2, 39, 0, 0, 0, [], [])), (39, (.iload_n 2, 40, 0, 0, 0, [], [])), (40, (.ifCond .eq 15, 43, 55, 0, 0, [], [])), (43, (.aload_n 0, 44, 0, 0, 0, [], [])), (44, (.getfield 53, 47, 0, 0, 0, [], [])), (47, (.getfield 321, 50, 0, 0, 0, [], [])), (50, (.iload_n 1, 51, 0, 0, 0, [], [])), (51, (.iaload, 52, 0, 0, 0, [], [])), (52, (.goto 5, 55, 57, 0, 0, [], [])), (55, (.bipush (-9), 57, 0, (-9), 0, [], [])), (57, (.ireturn, 58, 0, 0, 0, [], []))]]
noncomputable abbrev zT_137 : zT := (11, zI_137, 1, 3) -- X11_boughOn
noncomputable def zI_138 : List (List (Nat × zE)) := [[(0, (.iload_n 0, 1, 0, 0, 0, [], [])), (1, (.tableswitch 53 0 4 #[35, 39, 53, 53, 43], 36, 54, 0, 0, [(0, 36), (1, 40), (2, 54), (3, 54), (4, 44)], []))],
  [(36, (.iload_n 1, 37, 0, 0, 0, [], [])), (37, (.i2b, 38, 0, 0, 0, [], [])), (38, (.i2l, 39, 0, 0, 0, [], [])), (39, (.lreturn, 40, 0, 0, 0, [], [])), (40, (.iload_n 1, 41, 0, 0, 0, [], [])), (41, (.i2s, 42, 0, 0, 0, [], [])), (42, (.i2l, 43, 0, 0, 0, [], [])), (43, (.lreturn, 44, 0, 0, 0, [], [])), (44, (.iload_n 1, 45, 0, 0, 0, [], [])), (45, (.ifCond .eq 7, 48, 52, 0, 0, [], [])), (48, (.lconst 1, 49, 0, 0, 1, [], [])), (49, (.goto 4, 52, 53, 0, 0, [], [])), (52, (.lconst 0, 53, 0, 0, 0, [], [])), (53, (.lreturn, 54, 0, 0, 0, [], [])), (54, (.iload_n 1, 55, 0, 0, 0, [], [])), (55, (.i2l, 56, 0, 0, 0, [], [])), (56, (.lreturn, 57, 0, 0, 0, [], []))]]
noncomputable abbrev zT_138 : zT := (11, zI_138, 2, 2) -- X11_narrowed
noncomputable def zI_139 : List (List (Nat × zE)) := [[(0, (.aload_n 0, 1, 0, 0, 0, [], [])), (1, (.getfield 19, 4, 0, 0, 0, [], [])), (4, (.aload_n 0, 5, 0, 0, 0, [], [])), (5, (.getfield 10, 8, 0, 0, 0, [], [])), (8, (.invokevirtual 183, 11, 0, 0, 0, [], [])), (11, (.aload_n 0, 12, 0, 0, 0, [], [])), (12, (.iconst 1, 13, 0, 1, 0, [], [])), (13, (.putfield 358, 16, 0, 0, 0, [], [])), (16, (.iconst 1, 17, 0, 1, 0, [], [])), (17, (.ireturn, 18, 0, 0, 0, [], []))]]
noncomputable abbrev zT_139 : zT := (11, zI_139, 1, 1) -- X11_keep
noncomputable def zI_140 : List (List (Nat × zE)) := [[(0, (.aload_n 0, 1, 0, 0, 0, [], [])), (1, (.getfield 358, 4, 0, 0, 0, [], [])), (4, (.ifCond .ne 6, 7, 10, 0, 0, [], [])), (7, (.bipush (-3), 9, 0, (-3), 0, [], [])), (9, (.ireturn, 10, 0, 0, 0, [], [])), (10, (.aload_n 0, 11, 0, 0, 0, [], [])), (11, (.getfield 10, 14, 0, 0, 0, [], [])), (14, (.aload_n 0, 15, 0, 0, 0, [], [])), (15, (.getfield 19, 18, 0, 0, 0, [], [])), (18, (.invokevirtual 183, 21, 0, 0, 0, [], [])), (21, (.aload_n 0, 22, 0, 0, 0, [], [])), (22, (.getfield 10, 25, 0, 0, 0, [], [])), (25, (.getfield 68, 28, 0, 0, 0, [], [])), (28, (.getfield 81, 31, 0, 0, 0, [], [])), (31, (.ireturn, 32, 0, 0, 0, [], []))]]
noncomputable abbrev zT_140 : zT := (11, zI_140, 1, 1) -- X11_again
noncomputable def zI_141 : List (List (Nat × zE)) := [[(0, (.iload_n 0, 1, 0, 0, 0, [], [])), (1, (.iload_n 1, 2, 0, 0, 0, [], [])), (2, (.if_icmp .lt 12, 5, 14, 0, 0, [], [])), (5, (.iload_n 0, 6, 0, 0, 0, [], [])), (6, (.iload_n 2, 7, 0, 0, 0, [], [])), (7, (.if_icmp .gt 7, 10, 14, 0, 0, [], [])), (10, (.iconst 1, 11, 0, 1, 0, [], [])), (11, (.goto 4, 14, 15, 0, 0, [], [])), (14, (.iconst 0, 15, 0, 0, 0, [], [])), (15, (.ireturn, 16, 0, 0, 0, [], []))]]
noncomputable abbrev zT_141 : zT := (11, zI_141, 3, 3) -- X11_isWithin
noncomputable def zI_142 : List (List (Nat × zE)) := [[(0, (.iload_n 0, 1, 0, 0, 0, [], [])), (1, (.iconst 1, 2, 0, 1, 0, [], [])), (2, (.iconst 5, 3, 0, 5, 0, [], [])), (3, (.invokestatic 77, 6, 0, 0, 0, [], [])), (6, (.ireturn, 7, 0, 0, 0, [], []))]]
noncomputable abbrev zT_142 : zT := (11, zI_142, 3, 1) -- X11_isBoughKind
noncomputable def zI_143 : List (List (Nat × zE)) := [[(0, (.iload_n 0, 1, 0, 0, 0, [], [])), (1, (.ifCond .eq 8, 4, 9, 0, 0, [], [])), (4, (.iload_n 0, 5, 0, 0, 0, [], [])), (5, (.iconst 1, 6, 0, 1, 0, [], [])), (6, (.if_icmp .ne 7, 9, 13, 0, 0, [], [])), (9, (.iconst 1, 10, 0, 1, 0, [], [])), (10, (.goto 4, 13, 14, 0, 0, [], [])), (13, (.iconst 0, 14, 0, 0, 0, [], [])), (14, (.ireturn, 15, 0, 0, 0, [], []))]]
noncomputable abbrev zT_143 : zT := (11, zI_143, 3, 1) -- X11_isSide
noncomputable def zI_144 : List (List (Nat × zE)) := [[(0, (.iload_n 0, 1, 0, 0, 0, [], [])), (1, (.iconst 0, 2, 0, 0, 0, [], [])), (2, (.iconst 3, 3, 0, 3, 0, [], [])), (3, (.invokestatic 77, 6, 0, 0, 0, [], [])), (6, (.ireturn, 7, 0, 0, 0, [], []))]]
noncomputable abbrev zT_144 : zT := (11, zI_144, 3, 1) -- X11_isPlace
noncomputable def zI_145 : List (List (Nat × zE)) := [[(0, (.iload_n 0, 1, 0, 0, 0, [], [])), (1, (.iload_n 1, 2, 0, 0, 0, [], [])), (2, (.ishr, 3, 0, 0, 0, [], [])), (3, (.iconst 1, 4, 0, 1, 0, [], [])), (4, (.iand, 5, 0, 0, 0, [], [])), (5, (.ifCond .eq 7, 8, 12, 0, 0, [], [])), (8, (.iconst 1, 9, 0, 1, 0, [], [])), (9, (.goto 4, 12, 13, 0, 0, [], [])), (12, (.iconst 0, 13, 0, 0, 0, [], [])), (13, (.ireturn, 14, 0, 0, 0, [], []))]]
noncomputable abbrev zT_145 : zT := (11, zI_145, 3, 2) -- X11_isIn
noncomputable def zI_146 : List (List (Nat × zE)) := [[(0, (.iload_n 1, 1, 0, 0, 0, [], [])), (1, (.ifCond .eq 28, 4, 29, 0, 0, [], [])), (4, (.iload_n 1, 5, 0, 0, 0, [], [])), (5, (.iload_n 0, 6, 0, 0, 0, [], [])), (6, (.if_icmp .eq 23, 9, 29, 0, 0, [], [])), (9, (.iload_n 1, 10, 0, 0, 0, [], [])), (10, (.iconst 2, 11, 0, 2, 0, [], [])), (11, (.if_icmp .ne 8, 14, 19, 0, 0, [], [])), (14, (.iload_n 0, 15, 0, 0, 0, [], [])), (15, (.iconst 3, 16, 0, 3, 0, [], [])), (16, (.if_icmp .eq 13, 19, 29, 0, 0, [], [])), (19, (.iload_n 1, 20, 0, 0, 0, [], [])), (20, (.iconst 4, 21, 0, 4, 0, [], [])), (21, (.if_icmp .ne 12, 24, 33, 0, 0, [], [])), (24, (.iload_n 0, 25, 0, 0, 0, [], [])), (25, (.iconst 5, 26, 0, 5, 0, [], [])), (26, (.if_icmp .ne 7, 29, 33, 0, 0, [], [])), (29, (.iconst 1, 30, 0, 1, 0, [], [])), (30, (.goto 4, 33, 34, 0, 0, [], []))],
  [(33, (.iconst 0, 34, 0, 0, 0, [], [])), (34, (.ireturn, 35, 0, 0, 0, [], []))]]
noncomputable abbrev zT_146 : zT := (11, zI_146, 3, 2) -- X11_isKindOf
noncomputable def zI_147 : List (List (Nat × zE)) := [[(0, (.aload_n 0, 1, 0, 0, 0, [], [])), (1, (.iload_n 1, 2, 0, 0, 0, [], [])), (2, (.iaload, 3, 0, 0, 0, [], [])), (3, (.istore_n 3, 4, 0, 0, 0, [], [])), (4, (.aload_n 0, 5, 0, 0, 0, [], [])), (5, (.iload_n 1, 6, 0, 0, 0, [], [])), (6, (.iload_n 2, 7, 0, 0, 0, [], [])), (7, (.iastore, 8, 0, 0, 0, [], [])), (8, (.iload_n 3, 9, 0, 0, 0, [], [])), (9, (.ireturn, 10, 0, 0, 0, [], []))]]
noncomputable abbrev zT_147 : zT := (11, zI_147, 1, 4) -- X11_replaced
noncomputable def zI_148 : List (List (Nat × zE)) := [[(0, (.aload_n 0, 1, 0, 0, 0, [], [])), (1, (.iconst 0, 2, 0, 0, 0, [], [])), (2, (.aload_n 1, 3, 0, 0, 0, [], [])), (3, (.iconst 0, 4, 0, 0, 0, [], [])), (4, (.aload_n 0, 5, 0, 0, 0, [], [])), (5, (.arraylength, 6, 0, 0, 0, [], [])), (6, (.aload_n 1, 7, 0, 0, 0, [], [])), (7, (.arraylength, 8, 0, 0, 0, [], [])), (8, (.invokestatic 361, 11, 0, 0, 0, [], [])), (11, (.invokestatic 366, 14, 0, 0, 0, [], [])), (14, (.return_, 15, 0, 0, 0, [], []))]]
noncomputable abbrev zT_148 : zT := (11, zI_148, 0, 2) -- X11_copyRow
noncomputable def zI_149 : List (List (Nat × zE)) := [[(0, (.lload_n 0, 1, 0, 0, 0, [], [])), (1, (.lload_n 2, 2, 0, 0, 0, [], [])), (2, (.lcmp, 3, 0, 0, 0, [], [])), (3, (.ifCond .lt 14, 6, 17, 0, 0, [], [])), (6, (.lload_n 0, 7, 0, 0, 0, [], [])), (7, (.lload 4, 9, 0, 0, 0, [], [])), (9, (.lcmp, 10, 0, 0, 0, [], [])), (10, (.ifCond .gt 7, 13, 17, 0, 0, [], [])), (13, (.iconst 1, 14, 0, 1, 0, [], [])), (14, (.goto 4, 17, 18, 0, 0, [], [])), (17, (.iconst 0, 18, 0, 0, 0, [], [])), (18, (.ireturn, 19, 0, 0, 0, [], []))]]
noncomputable abbrev zT_149 : zT := (12, zI_149, 3, 6) -- X12_in
noncomputable def zI_150 : List (List (Nat × zE)) := [[(0, (.iload_n 1, 1, 0, 0, 0, [], [])), (1, (.i2l, 2, 0, 0, 0, [], [])), (2, (.lconst 0, 3, 0, 0, 0, [], [])), (3, (.aload_n 0, 4, 0, 0, 0, [], [])), (4, (.getfield 7, 7, 0, 0, 0, [], [])), (7, (.iconst 0, 8, 0, 0, 0, [], [])), (8, (.iaload, 9, 1, 0, 0, [], [])), (9, (.iconst 1, 10, 0, 1, 0, [], [])), (10, (.isub, 11, 0, 0, 0, [], [])), (11, (.i2l, 12, 0, 0, 0, [], [])), (12, (.invokestatic 67, 15, 0, 0, 0, [], [])), (15, (.ireturn, 16, 0, 0, 0, [], []))]]
noncomputable abbrev zT_150 : zT := (12, zI_150, 3, 2) -- X12_isBough
noncomputable def zI_151 : List (List (Nat × zE)) := [[(0, (.iload_n 1, 1, 0, 0, 0, [], [])), (1, (.i2l, 2, 0, 0, 0, [], [])), (2, (.lconst 0, 3, 0, 0, 0, [], [])), (3, (.aload_n 0, 4, 0, 0, 0, [], [])), (4, (.getfield 7, 7, 0, 0, 0, [], [])), (7, (.iconst 2, 8, 0, 2, 0, [], [])), (8, (.iaload, 9, 3, 0, 0, [], [])), (9, (.iconst 1, 10, 0, 1, 0, [], [])), (10, (.isub, 11, 0, 0, 0, [], [])), (11, (.i2l, 12, 0, 0, 0, [], [])), (12, (.invokestatic 67, 15, 0, 0, 0, [], [])), (15, (.ireturn, 16, 0, 0, 0, [], []))]]
noncomputable abbrev zT_151 : zT := (12, zI_151, 3, 2) -- X12_isPerson
noncomputable def zI_152 : List (List (Nat × zE)) := [[(0, (.iload_n 0, 1, 0, 0, 0, [], [])), (1, (.iload_n 1, 2, 0, 0, 0, [], [])), (2, (.ishr, 3, 0, 0, 0, [], [])), (3, (.iconst 1, 4, 0, 1, 0, [], [])), (4, (.iand, 5, 0, 0, 0, [], [])), (5, (.iconst 1, 6, 0, 1, 0, [], [])), (6, (.if_icmp .ne 7, 9, 13, 0, 0, [], [])), (9, (.iconst 1, 10, 0, 1, 0, [], [])), (10, (.goto 4, 13, 14, 0, 0, [], [])), (13, (.iconst 0, 14, 0, 0, 0, [], [])), (14, (.ireturn, 15, 0, 0, 0, [], []))]]
noncomputable abbrev zT_152 : zT := (12, zI_152, 3, 2) -- X12_has
noncomputable def zI_153 : List (List (Nat × zE)) := [[(0, (.iconst 0, 1, 0, 0, 0, [], [])), (1, (.istore_n 1, 2, 0, 0, 0, [], [])), (2, (.iload_n 1, 3, 0, 0, 0, [], [true, true])), (3, (.sipush 320, 6, 0, 320, 0, [], [])), (6, (.if_icmp .ge 21, 9, 27, 0, 0, [], [])), (9, (.aload_n 0, 10, 0, 0, 0, [], [])), (10, (.getfield 16, 13, 0, 0, 0, [], [])), (13, (.iload_n 1, 14, 0, 0, 0, [], [])), (14, (.aload_n 0, 15, 0, 0, 0, [], [])), (15, (.getfield 7, 18, 0, 0, 0, [], [])), (18, (.iload_n 1, 19, 0, 0, 0, [], [])), (19, (.iaload, 20, 0, 0, 0, [], [])), (20, (.iastore, 21, 0, 0, 0, [], [])), (21, (.iinc 1 1, 24, 0, 1, 0, [], [])), (24, (.goto (-22), 27, 2, 0, 0, [], [])), (27, (.return_, 28, 0, 0, 0, [], []))]]
noncomputable abbrev zT_153 : zT := (12, zI_153, 0, 2) -- X12_puts
noncomputable def zI_154 : List (List (Nat × zE)) := [[(0, (.iconst 0, 1, 0, 0, 0, [], [])), (1, (.istore_n 1, 2, 0, 0, 0, [], [])), (2, (.iload_n 1, 3, 0, 0, 0, [], [true, true])), (3, (.sipush 320, 6, 0, 320, 0, [], [])), (6, (.if_icmp .ge 21, 9, 27, 0, 0, [], [])), (9, (.aload_n 0, 10, 0, 0, 0, [], [])), (10, (.getfield 7, 13, 0, 0, 0, [], [])), (13, (.iload_n 1, 14, 0, 0, 0, [], [])), (14, (.aload_n 0, 15, 0, 0, 0, [], [])), (15, (.getfield 16, 18, 0, 0, 0, [], [])), (18, (.iload_n 1, 19, 0, 0, 0, [], [])), (19, (.iaload, 20, 0, 0, 0, [], [])), (20, (.iastore, 21, 0, 0, 0, [], [])), (21, (.iinc 1 1, 24, 0, 1, 0, [], [])), (24, (.goto (-22), 27, 2, 0, 0, [], [])), (27, (.return_, 28, 0, 0, 0, [], []))]]
noncomputable abbrev zT_154 : zT := (12, zI_154, 0, 2) -- X12_putsBack
noncomputable def zI_155 : List (List (Nat × zE)) := [[(0, (.bipush 7, 2, 0, 7, 0, [], [])), (2, (.iconst 5, 3, 0, 5, 0, [], [])), (3, (.iload_n 0, 4, 0, 0, 0, [], [])), (4, (.imul, 5, 0, 0, 0, [], [])), (5, (.iadd, 6, 0, 0, 0, [], [])), (6, (.iload_n 1, 7, 0, 0, 0, [], [])), (7, (.iadd, 8, 0, 0, 0, [], [])), (8, (.ireturn, 9, 0, 0, 0, [], []))]]
noncomputable abbrev zT_155 : zT := (12, zI_155, 1, 2) -- X12_at
noncomputable def zI_156 : List (List (Nat × zE)) := [[(0, (.aload_n 0, 1, 0, 0, 0, [], [])), (1, (.getfield 7, 4, 0, 0, 0, [], [])), (4, (.iload_n 1, 5, 0, 0, 0, [], [])), (5, (.iload_n 2, 6, 0, 0, 0, [], [])), (6, (.invokestatic 71, 9, 0, 0, 0, [], [])), (9, (.iaload, 10, 0, 0, 0, [], [])), (10, (.ireturn, 11, 0, 0, 0, [], []))]]
noncomputable abbrev zT_156 : zT := (12, zI_156, 1, 3) -- X12_its
noncomputable def zI_157 : List (List (Nat × zE)) := [[(0, (.aload_n 0, 1, 0, 0, 0, [], [])), (1, (.iload_n 1, 2, 0, 0, 0, [], [])), (2, (.iconst 4, 3, 0, 4, 0, [], [])), (3, (.invokevirtual 75, 6, 0, 0, 0, [], [])), (6, (.iconst 1, 7, 0, 1, 0, [], [])), (7, (.if_icmp .ne 7, 10, 14, 0, 0, [], [])), (10, (.iconst 1, 11, 0, 1, 0, [], [])), (11, (.goto 4, 14, 15, 0, 0, [], [])), (14, (.iconst 0, 15, 0, 0, 0, [], [])), (15, (.ireturn, 16, 0, 0, 0, [], []))]]
noncomputable abbrev zT_157 : zT := (12, zI_157, 3, 2) -- X12_isBroken
noncomputable def zI_158 : List (List (Nat × zE)) := [[(0, (.aload_n 0, 1, 0, 0, 0, [], [])), (1, (.iload_n 1, 2, 0, 0, 0, [], [])), (2, (.iconst 1, 3, 0, 1, 0, [], [])), (3, (.invokevirtual 75, 6, 0, 0, 0, [], [])), (6, (.iconst 1, 7, 0, 1, 0, [], [])), (7, (.isub, 8, 0, 0, 0, [], [])), (8, (.ireturn, 9, 0, 0, 0, [], []))]]
noncomputable abbrev zT_158 : zT := (12, zI_158, 1, 2) -- X12_below
noncomputable def zI_159 : List (List (Nat × zE)) := [[(0, (.iload_n 0, 1, 0, 0, 0, [], [])), (1, (.iconst 2, 2, 0, 2, 0, [], [])), (2, (.if_icmp .ne 15, 5, 17, 0, 0, [], [])), (5, (.iload_n 1, 6, 0, 0, 0, [], [])), (6, (.i2l, 7, 0, 0, 0, [], [])), (7, (.lconst 1, 8, 0, 0, 1, [], [])), (8, (.ldc2_w 78, 11, 0, 0, 9, [], [])), (11, (.invokestatic 67, 14, 0, 0, 0, [], [])), (14, (.ifCond .ne 20, 17, 34, 0, 0, [], [])), (17, (.iload_n 0, 18, 0, 0, 0, [], [])), (18, (.iconst 3, 19, 0, 3, 0, [], [])), (19, (.if_icmp .ne 19, 22, 38, 0, 0, [], [])), (22, (.iload_n 1, 23, 0, 0, 0, [], [])), (23, (.i2l, 24, 0, 0, 0, [], [])), (24, (.lconst 1, 25, 0, 0, 1, [], [])), (25, (.ldc2_w 80, 28, 0, 0, 999, [], [])), (28, (.invokestatic 67, 31, 0, 0, 0, [], [])), (31, (.ifCond .eq 7, 34, 38, 0, 0, [], []))],
  [(34, (.iconst 1, 35, 0, 1, 0, [], [])), (35, (.goto 4, 38, 39, 0, 0, [], [])), (38, (.iconst 0, 39, 0, 0, 0, [], [])), (39, (.ireturn, 40, 0, 0, 0, [], []))]]
noncomputable abbrev zT_159 : zT := (12, zI_159, 3, 2) -- X12_isPart
noncomputable def zI_160 : List (List (Nat × zE)) := [[(0, (.iload_n 1, 1, 0, 0, 0, [], [])), (1, (.i2l, 2, 0, 0, 0, [], [])), (2, (.lconst 1, 3, 0, 0, 1, [], [])), (3, (.ldc2_w 82, 6, 0, 0, 5, [], [])), (6, (.invokestatic 67, 9, 0, 0, 0, [], [])), (9, (.ifCond .eq 33, 12, 42, 0, 0, [], [])), (12, (.iload_n 2, 13, 0, 0, 0, [], [])), (13, (.iconst (-1), 14, 0, (-1), 0, [], [])), (14, (.if_icmp .eq 11, 17, 25, 0, 0, [], [])), (17, (.aload_n 0, 18, 0, 0, 0, [], [])), (18, (.iload_n 2, 19, 0, 0, 0, [], [])), (19, (.invokevirtual 84, 22, 0, 0, 0, [], [])), (22, (.ifCond .eq 20, 25, 42, 0, 0, [], [])), (25, (.iconst 2, 26, 0, 2, 0, [], [true, true, true, true, true, false])), (26, (.iload_n 3, 27, 0, 0, 0, [], [])), (27, (.invokestatic 88, 30, 0, 0, 0, [], [])), (30, (.ifCond .eq 12, 33, 42, 0, 0, [], []))],
  [(33, (.iconst 3, 34, 0, 3, 0, [], [])), (34, (.iload 4, 36, 0, 0, 0, [], [])), (36, (.invokestatic 88, 39, 0, 0, 0, [], [])), (39, (.ifCond .ne 5, 42, 44, 0, 0, [], [])), (42, (.iconst (-1), 43, 0, (-1), 0, [], [])), (43, (.ireturn, 44, 0, 0, 0, [], [])), (44, (.aload_n 0, 45, 0, 0, 0, [], [])), (45, (.getfield 7, 48, 0, 0, 0, [], [])), (48, (.iconst 0, 49, 0, 0, 0, [], [])), (49, (.iaload, 50, 1, 0, 0, [], [])), (50, (.bipush 9, 52, 0, 9, 0, [], [])), (52, (.if_icmp .ne 6, 55, 58, 0, 0, [], [])), (55, (.bipush (-2), 57, 0, (-2), 0, [], [])), (57, (.ireturn, 58, 0, 0, 0, [], [])), (58, (.iload_n 2, 59, 0, 0, 0, [], [])), (59, (.ifCond .lt 14, 62, 73, 0, 0, [], [])), (62, (.aload_n 0, 63, 0, 0, 0, [], [])), (63, (.iload_n 2, 64, 0, 0, 0, [], []))],
  [(64, (.invokevirtual 92, 67, 0, 0, 0, [], [])), (67, (.ifCond .eq 6, 70, 73, 0, 0, [], [])), (70, (.bipush (-4), 72, 0, (-4), 0, [], [])), (72, (.ireturn, 73, 0, 0, 0, [], [])), (73, (.aload_n 0, 74, 0, 0, 0, [], [true, true, true, true, true, false])), (74, (.getfield 7, 77, 0, 0, 0, [], [])), (77, (.iconst 0, 78, 0, 0, 0, [], [])), (78, (.iaload, 79, 1, 0, 0, [], [])), (79, (.istore 5, 81, 0, 0, 0, [], [])), (81, (.aload_n 0, 82, 0, 0, 0, [], [])), (82, (.getfield 7, 85, 0, 0, 0, [], [])), (85, (.iload 5, 87, 0, 0, 0, [], [])), (87, (.iconst 0, 88, 0, 0, 0, [], [])), (88, (.invokestatic 71, 91, 0, 0, 0, [], [])), (91, (.iload_n 1, 92, 0, 0, 0, [], [])), (92, (.iastore, 93, 0, 0, 0, [], [])), (93, (.aload_n 0, 94, 0, 0, 0, [], [])), (94, (.getfield 7, 97, 0, 0, 0, [], []))],
  [(97, (.iload 5, 99, 0, 0, 0, [], [])), (99, (.iconst 1, 100, 0, 1, 0, [], [])), (100, (.invokestatic 71, 103, 0, 0, 0, [], [])), (103, (.iload_n 2, 104, 0, 0, 0, [], [])), (104, (.iconst 1, 105, 0, 1, 0, [], [])), (105, (.iadd, 106, 0, 0, 0, [], [])), (106, (.iastore, 107, 0, 0, 0, [], [])), (107, (.aload_n 0, 108, 0, 0, 0, [], [])), (108, (.getfield 7, 111, 0, 0, 0, [], [])), (111, (.iload 5, 113, 0, 0, 0, [], [])), (113, (.iconst 2, 114, 0, 2, 0, [], [])), (114, (.invokestatic 71, 117, 0, 0, 0, [], [])), (117, (.iload_n 3, 118, 0, 0, 0, [], [])), (118, (.iastore, 119, 0, 0, 0, [], [])), (119, (.aload_n 0, 120, 0, 0, 0, [], [])), (120, (.getfield 7, 123, 0, 0, 0, [], [])), (123, (.iload 5, 125, 0, 0, 0, [], [])), (125, (.iconst 3, 126, 0, 3, 0, [], [])), (126, (.invokestatic 71, 129, 0, 0, 0, [], []))],
  [(129, (.iload 4, 131, 0, 0, 0, [], [])), (131, (.iastore, 132, 0, 0, 0, [], [])), (132, (.aload_n 0, 133, 0, 0, 0, [], [])), (133, (.getfield 7, 136, 0, 0, 0, [], [])), (136, (.iload 5, 138, 0, 0, 0, [], [])), (138, (.iconst 4, 139, 0, 4, 0, [], [])), (139, (.invokestatic 71, 142, 0, 0, 0, [], [])), (142, (.iconst 0, 143, 0, 0, 0, [], [])), (143, (.iastore, 144, 0, 0, 0, [], [])), (144, (.aload_n 0, 145, 0, 0, 0, [], [])), (145, (.getfield 7, 148, 0, 0, 0, [], [])), (148, (.iconst 0, 149, 0, 0, 0, [], [])), (149, (.dup2, 150, 0, 0, 0, [], [])), (150, (.iaload, 151, 1, 0, 0, [], [])), (151, (.iconst 1, 152, 0, 1, 0, [], [])), (152, (.iadd, 153, 0, 0, 0, [], [])), (153, (.iastore, 154, 1, 0, 0, [], [])), (154, (.iload 5, 156, 0, 0, 0, [], [])), (156, (.ireturn, 157, 0, 0, 0, [], []))]]
noncomputable abbrev zT_160 : zT := (12, zI_160, 1, 6) -- X12_bough
noncomputable def zI_161 : List (List (Nat × zE)) := [[(0, (.iload_n 1, 1, 0, 0, 0, [], [])), (1, (.ifCond .eq 28, 4, 29, 0, 0, [], [])), (4, (.iload_n 0, 5, 0, 0, 0, [], [])), (5, (.iload_n 1, 6, 0, 0, 0, [], [])), (6, (.if_icmp .eq 23, 9, 29, 0, 0, [], [])), (9, (.iload_n 1, 10, 0, 0, 0, [], [])), (10, (.iconst 2, 11, 0, 2, 0, [], [])), (11, (.if_icmp .ne 8, 14, 19, 0, 0, [], [])), (14, (.iload_n 0, 15, 0, 0, 0, [], [])), (15, (.iconst 3, 16, 0, 3, 0, [], [])), (16, (.if_icmp .eq 13, 19, 29, 0, 0, [], [])), (19, (.iload_n 1, 20, 0, 0, 0, [], [])), (20, (.iconst 4, 21, 0, 4, 0, [], [])), (21, (.if_icmp .ne 12, 24, 33, 0, 0, [], [])), (24, (.iload_n 0, 25, 0, 0, 0, [], [])), (25, (.iconst 5, 26, 0, 5, 0, [], [])), (26, (.if_icmp .ne 7, 29, 33, 0, 0, [], [])), (29, (.iconst 1, 30, 0, 1, 0, [], [])), (30, (.goto 4, 33, 34, 0, 0, [], []))],
  [(33, (.iconst 0, 34, 0, 0, 0, [], [])), (34, (.ireturn, 35, 0, 0, 0, [], []))]]
noncomputable abbrev zT_161 : zT := (12, zI_161, 3, 2) -- X12_isUnder
noncomputable def zI_162 : List (List (Nat × zE)) := [[(0, (.iload_n 1, 1, 0, 0, 0, [], [])), (1, (.tableswitch 65 (-5) (-1) #[63, 56, 49, 42, 35], 36, 66, 0, 0, [((-5), 64), ((-4), 57), ((-3), 50), ((-2), 43), ((-1), 36)], []))],
  [(36, (.aload_n 0, 37, 0, 0, 0, [], [])), (37, (.getfield 7, 40, 0, 0, 0, [], [])), (40, (.iconst 4, 41, 0, 4, 0, [], [])), (41, (.iaload, 42, 5, 0, 0, [], [])), (42, (.ireturn, 43, 0, 0, 0, [], [])), (43, (.aload_n 0, 44, 0, 0, 0, [], [])), (44, (.getfield 7, 47, 0, 0, 0, [], [])), (47, (.iconst 5, 48, 0, 5, 0, [], [])), (48, (.iaload, 49, 6, 0, 0, [], [])), (49, (.ireturn, 50, 0, 0, 0, [], [])), (50, (.aload_n 0, 51, 0, 0, 0, [], [])), (51, (.iload_n 2, 52, 0, 0, 0, [], [])), (52, (.iconst 2, 53, 0, 2, 0, [], [])), (53, (.invokevirtual 75, 56, 0, 0, 0, [], [])), (56, (.ireturn, 57, 0, 0, 0, [], [])), (57, (.aload_n 0, 58, 0, 0, 0, [], [])), (58, (.iload_n 2, 59, 0, 0, 0, [], [])), (59, (.iconst 3, 60, 0, 3, 0, [], [])), (60, (.invokevirtual 75, 63, 0, 0, 0, [], [])), (63, (.ireturn, 64, 0, 0, 0, [], []))],
  [(64, (.iload_n 2, 65, 0, 0, 0, [], [])), (65, (.ireturn, 66, 0, 0, 0, [], [])), (66, (.iload_n 1, 67, 0, 0, 0, [], [])), (67, (.ireturn, 68, 0, 0, 0, [], []))]]
noncomputable abbrev zT_162 : zT := (12, zI_162, 1, 3) -- X12_fact
noncomputable def zI_163 : List (List (Nat × zE)) := [[(0, (.iload_n 0, 1, 0, 0, 0, [], [])), (1, (.lookupswitch 92 #[(-21, 76), (-13, 65), (-12, 54), (-11, 43)], 44, 93, 0, 0, [((-21), 77), ((-13), 66), ((-12), 55), ((-11), 44)], []))],
  [(44, (.iload_n 1, 45, 0, 0, 0, [], [])), (45, (.iload_n 2, 46, 0, 0, 0, [], [])), (46, (.if_icmp .ge 7, 49, 53, 0, 0, [], [])), (49, (.iconst 1, 50, 0, 1, 0, [], [])), (50, (.goto 4, 53, 54, 0, 0, [], [])), (53, (.iconst 0, 54, 0, 0, 0, [], [])), (54, (.ireturn, 55, 0, 0, 0, [], [])), (55, (.iload_n 1, 56, 0, 0, 0, [], [])), (56, (.iload_n 2, 57, 0, 0, 0, [], [])), (57, (.if_icmp .ne 7, 60, 64, 0, 0, [], [])), (60, (.iconst 1, 61, 0, 1, 0, [], [])), (61, (.goto 4, 64, 65, 0, 0, [], []))],
  [(64, (.iconst 0, 65, 0, 0, 0, [], [])), (65, (.ireturn, 66, 0, 0, 0, [], [])), (66, (.iload_n 1, 67, 0, 0, 0, [], [])), (67, (.iload_n 2, 68, 0, 0, 0, [], [])), (68, (.if_icmp .le 7, 71, 75, 0, 0, [], [])), (71, (.iconst 1, 72, 0, 1, 0, [], [])), (72, (.goto 4, 75, 76, 0, 0, [], [])), (75, (.iconst 0, 76, 0, 0, 0, [], [])), (76, (.ireturn, 77, 0, 0, 0, [], [])), (77, (.iload_n 1, 78, 0, 0, 0, [], [])), (78, (.iconst 1, 79, 0, 1, 0, [], [])), (79, (.if_icmp .ne 12, 82, 91, 0, 0, [], [])), (82, (.iload_n 2, 83, 0, 0, 0, [], [])), (83, (.iconst 1, 84, 0, 1, 0, [], [])), (84, (.if_icmp .ne 7, 87, 91, 0, 0, [], [])), (87, (.iconst 1, 88, 0, 1, 0, [], [])), (88, (.goto 4, 91, 92, 0, 0, [], [])), (91, (.iconst 0, 92, 0, 0, 0, [], [])), (92, (.ireturn, 93, 0, 0, 0, [], [])), (93, (.iload_n 1, 94, 0, 0, 0, [], [])), (94, (.iconst 1, 95, 0, 1, 0, [], [])), (95, (.if_icmp .eq 8, 98, 103, 0, 0, [], []))],
  [(98, (.iload_n 2, 99, 0, 0, 0, [], [])), (99, (.iconst 1, 100, 0, 1, 0, [], [])), (100, (.if_icmp .ne 7, 103, 107, 0, 0, [], [])), (103, (.iconst 1, 104, 0, 1, 0, [], [])), (104, (.goto 4, 107, 108, 0, 0, [], [])), (107, (.iconst 0, 108, 0, 0, 0, [], [])), (108, (.ireturn, 109, 0, 0, 0, [], []))]]
noncomputable abbrev zT_163 : zT := (12, zI_163, 3, 3) -- X12_isHolding
noncomputable def zI_164 : List (List (Nat × zE)) := [[(0, (.iconst 0, 1, 0, 0, 0, [], [])), (1, (.istore 4, 3, 0, 0, 0, [], [])), (3, (.iload_n 1, 4, 0, 0, 0, [], [])), (4, (.istore 5, 6, 0, 0, 0, [], [])), (6, (.iload 5, 8, 0, 0, 0, [], [true, false, true, true, true, true, false])), (8, (.iload_n 2, 9, 0, 0, 0, [], [])), (9, (.if_icmp .ge 119, 12, 128, 0, 0, [], [])), (12, (.aload_n 0, 13, 0, 0, 0, [], [])), (13, (.getfield 7, 16, 0, 0, 0, [], [])), (16, (.bipush 120, 18, 0, 120, 0, [], [])), (18, (.iload 5, 20, 0, 0, 0, [], [])), (20, (.iadd, 21, 0, 0, 0, [], [])), (21, (.iaload, 22, 0, 0, 0, [], [])), (22, (.istore 6, 24, 0, 0, 0, [], [])), (24, (.iload 6, 26, 0, 0, 0, [], [])), (26, (.bipush (-10), 28, 0, (-10), 0, [], [])), (28, (.if_icmp .le 23, 31, 51, 0, 0, [], [])), (31, (.aload_n 0, 32, 0, 0, 0, [], []))],
  [(32, (.getfield 19, 35, 0, 0, 0, [], [])), (35, (.iload 4, 37, 0, 0, 0, [], [])), (37, (.aload_n 0, 38, 0, 0, 0, [], [])), (38, (.iload 6, 40, 0, 0, 0, [], [])), (40, (.iload_n 3, 41, 0, 0, 0, [], [])), (41, (.invokevirtual 95, 44, 0, 0, 0, [], [])), (44, (.iastore, 45, 0, 0, 0, [], [])), (45, (.iinc 4 1, 48, 0, 1, 0, [], [])), (48, (.goto 74, 51, 122, 0, 0, [], [])), (51, (.iload 6, 53, 0, 0, 0, [], [])), (53, (.bipush (-20), 55, 0, (-20), 0, [], [])), (55, (.if_icmp .ne 26, 58, 81, 0, 0, [], [])), (58, (.aload_n 0, 59, 0, 0, 0, [], [])), (59, (.getfield 19, 62, 0, 0, 0, [], [])), (62, (.iload 4, 64, 0, 0, 0, [], []))],
  [(64, (.iconst 1, 65, 0, 1, 0, [], [])), (65, (.isub, 66, 0, 0, 0, [], [])), (66, (.iconst 1, 67, 0, 1, 0, [], [])), (67, (.aload_n 0, 68, 0, 0, 0, [], [])), (68, (.getfield 19, 71, 0, 0, 0, [], [])), (71, (.iload 4, 73, 0, 0, 0, [], [])), (73, (.iconst 1, 74, 0, 1, 0, [], [])), (74, (.isub, 75, 0, 0, 0, [], [])), (75, (.iaload, 76, 0, 0, 0, [], [])), (76, (.isub, 77, 0, 0, 0, [], [])), (77, (.iastore, 78, 0, 0, 0, [], [])), (78, (.goto 44, 81, 122, 0, 0, [], [])), (81, (.iinc 4 (-1), 84, 0, (-1), 0, [], [])), (84, (.aload_n 0, 85, 0, 0, 0, [], [])), (85, (.getfield 19, 88, 0, 0, 0, [], [])), (88, (.iload 4, 90, 0, 0, 0, [], [])), (90, (.iconst 1, 91, 0, 1, 0, [], [])), (91, (.isub, 92, 0, 0, 0, [], [])), (92, (.iload 6, 94, 0, 0, 0, [], [])), (94, (.aload_n 0, 95, 0, 0, 0, [], [])), (95, (.getfield 19, 98, 0, 0, 0, [], []))],
  [(98, (.iload 4, 100, 0, 0, 0, [], [])), (100, (.iconst 1, 101, 0, 1, 0, [], [])), (101, (.isub, 102, 0, 0, 0, [], [])), (102, (.iaload, 103, 0, 0, 0, [], [])), (103, (.aload_n 0, 104, 0, 0, 0, [], [])), (104, (.getfield 19, 107, 0, 0, 0, [], [])), (107, (.iload 4, 109, 0, 0, 0, [], [])), (109, (.iaload, 110, 0, 0, 0, [], [])), (110, (.invokestatic 98, 113, 0, 0, 0, [], [])), (113, (.ifCond .eq 7, 116, 120, 0, 0, [], [])), (116, (.iconst 1, 117, 0, 1, 0, [], [])), (117, (.goto 4, 120, 121, 0, 0, [], [])), (120, (.iconst 0, 121, 0, 0, 0, [], [])), (121, (.iastore, 122, 0, 0, 0, [], [])), (122, (.iinc 5 1, 125, 0, 1, 0, [], [])), (125, (.goto (-119), 128, 6, 0, 0, [], []))],
  [(128, (.iload 4, 130, 0, 0, 0, [], [])), (130, (.ifCond .eq 13, 133, 143, 0, 0, [], [])), (133, (.aload_n 0, 134, 0, 0, 0, [], [])), (134, (.getfield 19, 137, 0, 0, 0, [], [])), (137, (.iconst 0, 138, 0, 0, 0, [], [])), (138, (.iaload, 139, 1, 0, 0, [], [])), (139, (.iconst 1, 140, 0, 1, 0, [], [])), (140, (.if_icmp .ne 7, 143, 147, 0, 0, [], [])), (143, (.iconst 1, 144, 0, 1, 0, [], [])), (144, (.goto 4, 147, 148, 0, 0, [], [])), (147, (.iconst 0, 148, 0, 0, 0, [], [])), (148, (.ireturn, 149, 0, 0, 0, [], []))]]
noncomputable abbrev zT_164 : zT := (12, zI_164, 3, 7) -- X12_isSo
noncomputable def zI_165_0 : List (Nat × zE) := [(0, (.aload_n 0, 1, 0, 0, 0, [], [])), (1, (.iload_n 1, 2, 0, 0, 0, [], [])), (2, (.iconst 0, 3, 0, 0, 0, [], [])), (3, (.invokevirtual 75, 6, 0, 0, 0, [], [])), (6, (.istore_n 2, 7, 0, 0, 0, [], [])), (7, (.iconst (-1), 8, 0, (-1), 0, [], [])), (8, (.istore_n 3, 9, 0, 0, 0, [], [])), (9, (.iconst 0, 10, 0, 0, 0, [], [])), (10, (.istore 4, 12, 0, 0, 0, [], [])), (12, (.iconst 0, 13, 0, 0, 0, [], [])), (13, (.istore 5, 15, 0, 0, 0, [], [])), (15, (.iload 5, 17, 0, 0, 0, [], [true, true, true, true, true, true, false, false, false])), (17, (.aload_n 0, 18, 0, 0, 0, [], [])), (18, (.getfield 7, 21, 0, 0, 0, [], [])), (21, (.iconst 1, 22, 0, 1, 0, [], [])), (22, (.iaload, 23, 2, 0, 0, [], [])), (23, (.if_icmp .ge 75, 26, 98, 0, 0, [], [])), (26, (.iload_n 3, 27, 0, 0, 0, [], [])), (27, (.ifCond .ge 71, 30, 98, 0, 0, [], [])), (30, (.bipush 88, 32, 0, 88, 0, [], []))]
noncomputable def zI_165_1 : List (Nat × zE) := [(32, (.iconst 4, 33, 0, 4, 0, [], [])), (33, (.iload 5, 35, 0, 0, 0, [], [])), (35, (.imul, 36, 0, 0, 0, [], [])), (36, (.iadd, 37, 0, 0, 0, [], [])), (37, (.istore 6, 39, 0, 0, 0, [], [])), (39, (.iload_n 2, 40, 0, 0, 0, [], [])), (40, (.aload_n 0, 41, 0, 0, 0, [], [])), (41, (.getfield 7, 44, 0, 0, 0, [], [])), (44, (.iload 6, 46, 0, 0, 0, [], [])), (46, (.iconst 0, 47, 0, 0, 0, [], [])), (47, (.iadd, 48, 0, 0, 0, [], [])), (48, (.iaload, 49, 0, 0, 0, [], [])), (49, (.invokestatic 102, 52, 0, 0, 0, [], [])), (52, (.ifCond .eq 27, 55, 79, 0, 0, [], [])), (55, (.aload_n 0, 56, 0, 0, 0, [], [])), (56, (.iload 4, 58, 0, 0, 0, [], [])), (58, (.aload_n 0, 59, 0, 0, 0, [], [])), (59, (.getfield 7, 62, 0, 0, 0, [], [])), (62, (.iload 6, 64, 0, 0, 0, [], []))]
noncomputable def zI_165_2 : List (Nat × zE) := [(64, (.iconst 3, 65, 0, 3, 0, [], [])), (65, (.iadd, 66, 0, 0, 0, [], [])), (66, (.iaload, 67, 0, 0, 0, [], [])), (67, (.iload_n 1, 68, 0, 0, 0, [], [])), (68, (.invokevirtual 105, 71, 0, 0, 0, [], [])), (71, (.ifCond .eq 8, 74, 79, 0, 0, [], [])), (74, (.iload 6, 76, 0, 0, 0, [], [])), (76, (.goto 4, 79, 80, 0, 0, [], [])), (79, (.iconst (-1), 80, 0, (-1), 0, [], [])), (80, (.istore_n 3, 81, 0, 0, 0, [], [])), (81, (.aload_n 0, 82, 0, 0, 0, [], [])), (82, (.getfield 7, 85, 0, 0, 0, [], [])), (85, (.iload 6, 87, 0, 0, 0, [], [])), (87, (.iconst 3, 88, 0, 3, 0, [], [])), (88, (.iadd, 89, 0, 0, 0, [], [])), (89, (.iaload, 90, 0, 0, 0, [], [])), (90, (.istore 4, 92, 0, 0, 0, [], [])), (92, (.iinc 5 1, 95, 0, 1, 0, [], [])), (95, (.goto (-80), 98, 15, 0, 0, [], []))]
noncomputable def zI_165_3 : List (Nat × zE) := [(98, (.iload_n 3, 99, 0, 0, 0, [], [true, true, true, true, false, false, false, false, false])), (99, (.ifCond .ge 7, 102, 106, 0, 0, [], [])), (102, (.iconst (-1), 103, 0, (-1), 0, [], [])), (103, (.goto 11, 106, 114, 0, 0, [], [])), (106, (.aload_n 0, 107, 0, 0, 0, [], [])), (107, (.getfield 7, 110, 0, 0, 0, [], [])), (110, (.iload_n 3, 111, 0, 0, 0, [], [])), (111, (.iconst 1, 112, 0, 1, 0, [], [])), (112, (.iadd, 113, 0, 0, 0, [], [])), (113, (.iaload, 114, 0, 0, 0, [], [])), (114, (.istore 5, 116, 0, 0, 0, [], [true, true, true, true, false, false, false, false, false])), (116, (.iload_n 3, 117, 0, 0, 0, [], [])), (117, (.ifCond .ge 7, 120, 124, 0, 0, [], [])), (120, (.iconst 0, 121, 0, 0, 0, [], [])), (121, (.goto 11, 124, 132, 0, 0, [], [])), (124, (.aload_n 0, 125, 0, 0, 0, [], [])), (125, (.getfield 7, 128, 0, 0, 0, [], []))]
noncomputable def zI_165_4 : List (Nat × zE) := [(128, (.iload_n 3, 129, 0, 0, 0, [], [])), (129, (.iconst 2, 130, 0, 2, 0, [], [])), (130, (.iadd, 131, 0, 0, 0, [], [])), (131, (.iaload, 132, 0, 0, 0, [], [])), (132, (.istore 6, 134, 0, 0, 0, [], [true, true, true, false, false, true, false, false, false])), (134, (.aload_n 0, 135, 0, 0, 0, [], [])), (135, (.iload_n 1, 136, 0, 0, 0, [], [])), (136, (.iconst 3, 137, 0, 3, 0, [], [])), (137, (.invokevirtual 75, 140, 0, 0, 0, [], [])), (140, (.istore 7, 142, 0, 0, 0, [], [])), (142, (.iload 5, 144, 0, 0, 0, [], [])), (144, (.ifCond .ne 11, 147, 155, 0, 0, [], [])), (147, (.iload 7, 149, 0, 0, 0, [], [])), (149, (.iload 6, 151, 0, 0, 0, [], [])), (151, (.iadd, 152, 0, 0, 0, [], [])), (152, (.goto 29, 155, 181, 0, 0, [], [])), (155, (.iload 5, 157, 0, 0, 0, [], [])), (157, (.iconst 1, 158, 0, 1, 0, [], [])), (158, (.if_icmp .ne 11, 161, 169, 0, 0, [], []))]
noncomputable def zI_165_5 : List (Nat × zE) := [(161, (.iload 7, 163, 0, 0, 0, [], [])), (163, (.iload 6, 165, 0, 0, 0, [], [])), (165, (.isub, 166, 0, 0, 0, [], [])), (166, (.goto 15, 169, 181, 0, 0, [], [])), (169, (.iload 5, 171, 0, 0, 0, [], [])), (171, (.iconst 2, 172, 0, 2, 0, [], [])), (172, (.if_icmp .ne 7, 175, 179, 0, 0, [], [])), (175, (.iconst 0, 176, 0, 0, 0, [], [])), (176, (.goto 5, 179, 181, 0, 0, [], [])), (179, (.iload 7, 181, 0, 0, 0, [], [])), (181, (.istore 7, 183, 0, 0, 0, [], [true, true, true, false, false, false, false, false, false])), (183, (.iload 7, 185, 0, 0, 0, [], [])), (185, (.ifCond .ge 7, 188, 192, 0, 0, [], [])), (188, (.iconst 0, 189, 0, 0, 0, [], [])), (189, (.goto 5, 192, 194, 0, 0, [], []))]
noncomputable def zI_165_6 : List (Nat × zE) := [(192, (.iload 7, 194, 0, 0, 0, [], [])), (194, (.istore 7, 196, 0, 0, 0, [], [true, true, true, false, false, false, false, false, false])), (196, (.iload 7, 198, 0, 0, 0, [], [])), (198, (.iconst 2, 199, 0, 2, 0, [], [])), (199, (.idiv, 200, 0, 0, 0, [], [])), (200, (.aload_n 0, 201, 0, 0, 0, [], [])), (201, (.iload_n 1, 202, 0, 0, 0, [], [])), (202, (.iconst 2, 203, 0, 2, 0, [], [])), (203, (.invokevirtual 75, 206, 0, 0, 0, [], [])), (206, (.isub, 207, 0, 0, 0, [], [])), (207, (.istore 8, 209, 0, 0, 0, [], [])), (209, (.iload_n 2, 210, 0, 0, 0, [], [])), (210, (.iconst 1, 211, 0, 1, 0, [], [])), (211, (.if_icmp .ne 18, 214, 229, 0, 0, [], [])), (214, (.iload 7, 216, 0, 0, 0, [], [])), (216, (.bipush 10, 218, 0, 10, 0, [], [])), (218, (.aload_n 0, 219, 0, 0, 0, [], [])), (219, (.getfield 7, 222, 0, 0, 0, [], [])), (222, (.iconst 4, 223, 0, 4, 0, [], [])), (223, (.iaload, 224, 5, 0, 0, [], []))]
noncomputable def zI_165_7 : List (Nat × zE) := [(224, (.imul, 225, 0, 0, 0, [], [])), (225, (.iadd, 226, 0, 0, 0, [], [])), (226, (.goto 54, 229, 280, 0, 0, [], [])), (229, (.iload_n 2, 230, 0, 0, 0, [], [])), (230, (.iconst 2, 231, 0, 2, 0, [], [])), (231, (.if_icmp .ne 10, 234, 241, 0, 0, [], [])), (234, (.iload 7, 236, 0, 0, 0, [], [])), (236, (.iconst 2, 237, 0, 2, 0, [], [])), (237, (.idiv, 238, 0, 0, 0, [], [])), (238, (.goto 42, 241, 280, 0, 0, [], [])), (241, (.iload_n 2, 242, 0, 0, 0, [], [])), (242, (.iconst 3, 243, 0, 3, 0, [], [])), (243, (.if_icmp .ne 17, 246, 260, 0, 0, [], [])), (246, (.iload 8, 248, 0, 0, 0, [], [])), (248, (.ifCond .ge 7, 251, 255, 0, 0, [], [])), (251, (.iconst 0, 252, 0, 0, 0, [], [])), (252, (.goto 28, 255, 280, 0, 0, [], [])), (255, (.iload 8, 257, 0, 0, 0, [], []))]
noncomputable def zI_165_8 : List (Nat × zE) := [(257, (.goto 23, 260, 280, 0, 0, [], [])), (260, (.iload_n 2, 261, 0, 0, 0, [], [])), (261, (.iconst 4, 262, 0, 4, 0, [], [])), (262, (.if_icmp .ne 11, 265, 273, 0, 0, [], [])), (265, (.iload 7, 267, 0, 0, 0, [], [])), (267, (.bipush 50, 269, 0, 50, 0, [], [])), (269, (.iadd, 270, 0, 0, 0, [], [])), (270, (.goto 10, 273, 280, 0, 0, [], [])), (273, (.iconst 2, 274, 0, 2, 0, [], [])), (274, (.iload 7, 276, 0, 0, 0, [], [])), (276, (.bipush 50, 278, 0, 50, 0, [], [])), (278, (.iadd, 279, 0, 0, 0, [], [])), (279, (.imul, 280, 0, 0, 0, [], [])), (280, (.ireturn, 281, 0, 0, 0, [], []))]
noncomputable def zI_165 : List (List (Nat × zE)) := [zI_165_0, zI_165_1, zI_165_2, zI_165_3, zI_165_4, zI_165_5, zI_165_6, zI_165_7, zI_165_8]
noncomputable abbrev zT_165 : zT := (12, zI_165, 1, 9) -- X12_holdsNow
noncomputable def zI_166 : List (List (Nat × zE)) := [[(0, (.iconst 0, 1, 0, 0, 0, [], [])), (1, (.istore_n 1, 2, 0, 0, 0, [], [])), (2, (.iload_n 1, 3, 0, 0, 0, [], [true, true])), (3, (.aload_n 0, 4, 0, 0, 0, [], [])), (4, (.getfield 7, 7, 0, 0, 0, [], [])), (7, (.iconst 0, 8, 0, 0, 0, [], [])), (8, (.iaload, 9, 1, 0, 0, [], [])), (9, (.if_icmp .ge 20, 12, 29, 0, 0, [], [])), (12, (.aload_n 0, 13, 0, 0, 0, [], [])), (13, (.getfield 22, 16, 0, 0, 0, [], [])), (16, (.iload_n 1, 17, 0, 0, 0, [], [])), (17, (.aload_n 0, 18, 0, 0, 0, [], [])), (18, (.iload_n 1, 19, 0, 0, 0, [], [])), (19, (.invokevirtual 108, 22, 0, 0, 0, [], [])), (22, (.iastore, 23, 0, 0, 0, [], [])), (23, (.iinc 1 1, 26, 0, 1, 0, [], [])), (26, (.goto (-24), 29, 2, 0, 0, [], [])), (29, (.return_, 30, 0, 0, 0, [], []))]]
noncomputable abbrev zT_166 : zT := (12, zI_166, 0, 2) -- X12_findHolds
noncomputable def zI_167 : List (List (Nat × zE)) := [[(0, (.iload_n 1, 1, 0, 0, 0, [], [])), (1, (.istore_n 3, 2, 0, 0, 0, [], [])), (2, (.iload_n 3, 3, 0, 0, 0, [], [true, false, true, true])), (3, (.ifCond .lt 22, 6, 25, 0, 0, [], [])), (6, (.aload_n 0, 7, 0, 0, 0, [], [])), (7, (.getfield 25, 10, 0, 0, 0, [], [])), (10, (.iload_n 3, 11, 0, 0, 0, [], [])), (11, (.dup2, 12, 0, 0, 0, [], [])), (12, (.iaload, 13, 0, 0, 0, [], [])), (13, (.iload_n 2, 14, 0, 0, 0, [], [])), (14, (.iadd, 15, 0, 0, 0, [], [])), (15, (.iastore, 16, 0, 0, 0, [], [])), (16, (.aload_n 0, 17, 0, 0, 0, [], [])), (17, (.iload_n 3, 18, 0, 0, 0, [], [])), (18, (.invokevirtual 112, 21, 0, 0, 0, [], [])), (21, (.istore_n 3, 22, 0, 0, 0, [], [])), (22, (.goto (-20), 25, 2, 0, 0, [], [])), (25, (.return_, 26, 0, 0, 0, [], []))]]
noncomputable abbrev zT_167 : zT := (12, zI_167, 0, 4) -- X12_loads
noncomputable def zI_168 : List (List (Nat × zE)) := [[(0, (.iconst 0, 1, 0, 0, 0, [], [])), (1, (.istore_n 1, 2, 0, 0, 0, [], [])), (2, (.iload_n 1, 3, 0, 0, 0, [], [true, true])), (3, (.aload_n 0, 4, 0, 0, 0, [], [])), (4, (.getfield 7, 7, 0, 0, 0, [], [])), (7, (.iconst 0, 8, 0, 0, 0, [], [])), (8, (.iaload, 9, 1, 0, 0, [], [])), (9, (.if_icmp .ge 28, 12, 37, 0, 0, [], [])), (12, (.aload_n 0, 13, 0, 0, 0, [], [])), (13, (.getfield 25, 16, 0, 0, 0, [], [])), (16, (.iload_n 1, 17, 0, 0, 0, [], [])), (17, (.aload_n 0, 18, 0, 0, 0, [], [])), (18, (.getfield 7, 21, 0, 0, 0, [], [])), (21, (.iconst 5, 22, 0, 5, 0, [], [])), (22, (.iaload, 23, 6, 0, 0, [], [])), (23, (.aload_n 0, 24, 0, 0, 0, [], [])), (24, (.iload_n 1, 25, 0, 0, 0, [], [])), (25, (.iconst 2, 26, 0, 2, 0, [], [])), (26, (.invokevirtual 75, 29, 0, 0, 0, [], [])), (29, (.imul, 30, 0, 0, 0, [], [])), (30, (.iastore, 31, 0, 0, 0, [], [])), (31, (.iinc 1 1, 34, 0, 1, 0, [], []))],
  [(34, (.goto (-32), 37, 2, 0, 0, [], [])), (37, (.iconst 0, 38, 0, 0, 0, [], [])), (38, (.istore_n 1, 39, 0, 0, 0, [], [])), (39, (.iload_n 1, 40, 0, 0, 0, [], [true, true])), (40, (.aload_n 0, 41, 0, 0, 0, [], [])), (41, (.getfield 7, 44, 0, 0, 0, [], [])), (44, (.iconst 2, 45, 0, 2, 0, [], [])), (45, (.iaload, 46, 3, 0, 0, [], [])), (46, (.if_icmp .ge 24, 49, 70, 0, 0, [], [])), (49, (.aload_n 0, 50, 0, 0, 0, [], [])), (50, (.aload_n 0, 51, 0, 0, 0, [], [])), (51, (.iload_n 1, 52, 0, 0, 0, [], [])), (52, (.invokevirtual 115, 55, 0, 0, 0, [], [])), (55, (.aload_n 0, 56, 0, 0, 0, [], [])), (56, (.iload_n 1, 57, 0, 0, 0, [], [])), (57, (.iconst 0, 58, 0, 0, 0, [], [])), (58, (.invokevirtual 118, 61, 0, 0, 0, [], [])), (61, (.invokevirtual 121, 64, 0, 0, 0, [], []))],
  [(64, (.iinc 1 1, 67, 0, 1, 0, [], [])), (67, (.goto (-28), 70, 39, 0, 0, [], [])), (70, (.return_, 71, 0, 0, 0, [], []))]]
noncomputable abbrev zT_168 : zT := (12, zI_168, 0, 2) -- X12_findBears
noncomputable def zI_169 : List (List (Nat × zE)) := [[(0, (.aload_n 0, 1, 0, 0, 0, [], [])), (1, (.iload_n 1, 2, 0, 0, 0, [], [])), (2, (.invokevirtual 92, 5, 0, 0, 0, [], [])), (5, (.ifCond .ne 22, 8, 27, 0, 0, [], [])), (8, (.aload_n 0, 9, 0, 0, 0, [], [])), (9, (.getfield 25, 12, 0, 0, 0, [], [])), (12, (.iload_n 1, 13, 0, 0, 0, [], [])), (13, (.iaload, 14, 0, 0, 0, [], [])), (14, (.aload_n 0, 15, 0, 0, 0, [], [])), (15, (.getfield 22, 18, 0, 0, 0, [], [])), (18, (.iload_n 1, 19, 0, 0, 0, [], [])), (19, (.iaload, 20, 0, 0, 0, [], [])), (20, (.if_icmp .le 7, 23, 27, 0, 0, [], [])), (23, (.iconst 1, 24, 0, 1, 0, [], [])), (24, (.goto 4, 27, 28, 0, 0, [], [])), (27, (.iconst 0, 28, 0, 0, 0, [], [])), (28, (.ireturn, 29, 0, 0, 0, [], []))]]
noncomputable abbrev zT_169 : zT := (12, zI_169, 3, 2) -- X12_isCracking
noncomputable def zI_170 : List (List (Nat × zE)) := [[(0, (.aload_n 0, 1, 0, 0, 0, [], [])), (1, (.invokevirtual 125, 4, 0, 0, 0, [], [])), (4, (.iconst 0, 5, 0, 0, 0, [], [])), (5, (.istore_n 1, 6, 0, 0, 0, [], [])), (6, (.iconst 0, 7, 0, 0, 0, [], [])), (7, (.istore_n 2, 8, 0, 0, 0, [], [])), (8, (.iload_n 2, 9, 0, 0, 0, [], [true, true, true])), (9, (.aload_n 0, 10, 0, 0, 0, [], [])), (10, (.getfield 7, 13, 0, 0, 0, [], [])), (13, (.iconst 0, 14, 0, 0, 0, [], [])), (14, (.iaload, 15, 1, 0, 0, [], [])), (15, (.if_icmp .ge 27, 18, 42, 0, 0, [], [])), (18, (.iload_n 1, 19, 0, 0, 0, [], [])), (19, (.aload_n 0, 20, 0, 0, 0, [], [])), (20, (.iload_n 2, 21, 0, 0, 0, [], [])), (21, (.invokevirtual 128, 24, 0, 0, 0, [], [])), (24, (.ifCond .eq 9, 27, 33, 0, 0, [], [])), (27, (.iconst 1, 28, 0, 1, 0, [], [])), (28, (.iload_n 2, 29, 0, 0, 0, [], [])), (29, (.ishl, 30, 0, 0, 0, [], [])), (30, (.goto 4, 33, 34, 0, 0, [], []))],
  [(33, (.iconst 0, 34, 0, 0, 0, [], [])), (34, (.ior, 35, 0, 0, 0, [], [])), (35, (.istore_n 1, 36, 0, 0, 0, [], [])), (36, (.iinc 2 1, 39, 0, 1, 0, [], [])), (39, (.goto (-31), 42, 8, 0, 0, [], [])), (42, (.iload_n 1, 43, 0, 0, 0, [], [])), (43, (.ireturn, 44, 0, 0, 0, [], []))]]
noncomputable abbrev zT_170 : zT := (12, zI_170, 1, 3) -- X12_crackSet
noncomputable def zI_171 : List (List (Nat × zE)) := [[(0, (.aload_n 0, 1, 0, 0, 0, [], [])), (1, (.invokevirtual 131, 4, 0, 0, 0, [], [])), (4, (.ifCond .ne 7, 7, 11, 0, 0, [], [])), (7, (.iconst 1, 8, 0, 1, 0, [], [])), (8, (.goto 4, 11, 12, 0, 0, [], [])), (11, (.iconst 0, 12, 0, 0, 0, [], [])), (12, (.ireturn, 13, 0, 0, 0, [], []))]]
noncomputable abbrev zT_171 : zT := (12, zI_171, 3, 1) -- X12_isSafe
noncomputable def zI_172 : List (List (Nat × zE)) := [[(0, (.aload_n 0, 1, 0, 0, 0, [], [])), (1, (.invokevirtual 135, 4, 0, 0, 0, [], [])), (4, (.aload_n 0, 5, 0, 0, 0, [], [])), (5, (.invokevirtual 125, 8, 0, 0, 0, [], [])), (8, (.return_, 9, 0, 0, 0, [], []))]]
noncomputable abbrev zT_172 : zT := (12, zI_172, 0, 1) -- X12_findAll
noncomputable def zI_173 : List (List (Nat × zE)) := [[(0, (.aload_n 0, 1, 0, 0, 0, [], [])), (1, (.iload_n 1, 2, 0, 0, 0, [], [])), (2, (.invokevirtual 84, 5, 0, 0, 0, [], [])), (5, (.ifCond .eq 15, 8, 20, 0, 0, [], [])), (8, (.iload_n 2, 9, 0, 0, 0, [], [])), (9, (.i2l, 10, 0, 0, 0, [], [])), (10, (.lconst 0, 11, 0, 0, 0, [], [])), (11, (.ldc2_w 138, 14, 0, 0, 6, [], [])), (14, (.invokestatic 67, 17, 0, 0, 0, [], [])), (17, (.ifCond .ne 5, 20, 22, 0, 0, [], [])), (20, (.iconst (-1), 21, 0, (-1), 0, [], [])), (21, (.ireturn, 22, 0, 0, 0, [], [])), (22, (.aload_n 0, 23, 0, 0, 0, [], [])), (23, (.invokevirtual 140, 26, 0, 0, 0, [], [])), (26, (.iload_n 2, 27, 0, 0, 0, [], [])), (27, (.tableswitch 96 1 6 #[37, 96, 96, 56, 63, 70], 64, 123, 0, 0, [(1, 64), (2, 123), (3, 123), (4, 83), (5, 90), (6, 97)], []))],
  [],
  [(64, (.aload_n 0, 65, 0, 0, 0, [], [])), (65, (.iload_n 1, 66, 0, 0, 0, [], [])), (66, (.invokevirtual 112, 69, 0, 0, 0, [], [])), (69, (.ifCond .ge 8, 72, 77, 0, 0, [], [])), (72, (.bipush (-9), 74, 0, (-9), 0, [], [])), (74, (.goto 8, 77, 82, 0, 0, [], [])), (77, (.aload_n 0, 78, 0, 0, 0, [], [])), (78, (.iload_n 1, 79, 0, 0, 0, [], [])), (79, (.invokevirtual 112, 82, 0, 0, 0, [], [])), (82, (.ireturn, 83, 0, 0, 0, [], [])), (83, (.aload_n 0, 84, 0, 0, 0, [], [])), (84, (.getfield 22, 87, 0, 0, 0, [], [])), (87, (.iload_n 1, 88, 0, 0, 0, [], [])), (88, (.iaload, 89, 0, 0, 0, [], [])), (89, (.ireturn, 90, 0, 0, 0, [], [])), (90, (.aload_n 0, 91, 0, 0, 0, [], [])), (91, (.getfield 25, 94, 0, 0, 0, [], [])), (94, (.iload_n 1, 95, 0, 0, 0, [], [])), (95, (.iaload, 96, 0, 0, 0, [], []))],
  [(96, (.ireturn, 97, 0, 0, 0, [], [])), (97, (.aload_n 0, 98, 0, 0, 0, [], [])), (98, (.iload_n 1, 99, 0, 0, 0, [], [])), (99, (.invokevirtual 92, 102, 0, 0, 0, [], [])), (102, (.ifCond .eq 7, 105, 109, 0, 0, [], [])), (105, (.iconst 2, 106, 0, 2, 0, [], [])), (106, (.goto 16, 109, 122, 0, 0, [], [])), (109, (.aload_n 0, 110, 0, 0, 0, [], [])), (110, (.iload_n 1, 111, 0, 0, 0, [], [])), (111, (.invokevirtual 128, 114, 0, 0, 0, [], [])), (114, (.ifCond .eq 7, 117, 121, 0, 0, [], [])), (117, (.iconst 1, 118, 0, 1, 0, [], [])), (118, (.goto 4, 121, 122, 0, 0, [], [])), (121, (.iconst 0, 122, 0, 0, 0, [], [])), (122, (.ireturn, 123, 0, 0, 0, [], [])), (123, (.aload_n 0, 124, 0, 0, 0, [], [])), (124, (.iload_n 1, 125, 0, 0, 0, [], [])), (125, (.iload_n 2, 126, 0, 0, 0, [], [])), (126, (.invokevirtual 75, 129, 0, 0, 0, [], []))],
  [(129, (.ireturn, 130, 0, 0, 0, [], []))]]
noncomputable abbrev zT_173 : zT := (12, zI_173, 1, 3) -- X12_boughOf
noncomputable def zI_174 : List (List (Nat × zE)) := [[(0, (.aload_n 0, 1, 0, 0, 0, [], [])), (1, (.iload_n 1, 2, 0, 0, 0, [], [])), (2, (.invokevirtual 84, 5, 0, 0, 0, [], [])), (5, (.ifCond .eq 11, 8, 16, 0, 0, [], [])), (8, (.iload_n 2, 9, 0, 0, 0, [], [])), (9, (.iload_n 3, 10, 0, 0, 0, [], [])), (10, (.invokestatic 88, 13, 0, 0, 0, [], [])), (13, (.ifCond .ne 5, 16, 18, 0, 0, [], [])), (16, (.iconst (-1), 17, 0, (-1), 0, [], [])), (17, (.ireturn, 18, 0, 0, 0, [], [])), (18, (.aload_n 0, 19, 0, 0, 0, [], [])), (19, (.iload_n 1, 20, 0, 0, 0, [], [])), (20, (.iload_n 2, 21, 0, 0, 0, [], [])), (21, (.invokevirtual 75, 24, 0, 0, 0, [], [])), (24, (.istore 4, 26, 0, 0, 0, [], [])), (26, (.aload_n 0, 27, 0, 0, 0, [], [])), (27, (.getfield 7, 30, 0, 0, 0, [], [])), (30, (.iload_n 1, 31, 0, 0, 0, [], [])), (31, (.iload_n 2, 32, 0, 0, 0, [], []))],
  [(32, (.invokestatic 71, 35, 0, 0, 0, [], [])), (35, (.iload_n 3, 36, 0, 0, 0, [], [])), (36, (.iastore, 37, 0, 0, 0, [], [])), (37, (.iload 4, 39, 0, 0, 0, [], [])), (39, (.ireturn, 40, 0, 0, 0, [], []))]]
noncomputable abbrev zT_174 : zT := (12, zI_174, 1, 5) -- X12_change
noncomputable def zI_175 : List (List (Nat × zE)) := [[(0, (.aload_n 0, 1, 0, 0, 0, [], [])), (1, (.iload_n 1, 2, 0, 0, 0, [], [])), (2, (.invokevirtual 84, 5, 0, 0, 0, [], [])), (5, (.ifCond .eq 15, 8, 20, 0, 0, [], [])), (8, (.iload_n 2, 9, 0, 0, 0, [], [])), (9, (.i2l, 10, 0, 0, 0, [], [])), (10, (.lconst 1, 11, 0, 0, 1, [], [])), (11, (.ldc2_w 82, 14, 0, 0, 5, [], [])), (14, (.invokestatic 67, 17, 0, 0, 0, [], [])), (17, (.ifCond .ne 5, 20, 22, 0, 0, [], [])), (20, (.iconst (-1), 21, 0, (-1), 0, [], [])), (21, (.ireturn, 22, 0, 0, 0, [], [])), (22, (.aload_n 0, 23, 0, 0, 0, [], [])), (23, (.iload_n 1, 24, 0, 0, 0, [], [])), (24, (.iconst 0, 25, 0, 0, 0, [], [])), (25, (.invokevirtual 75, 28, 0, 0, 0, [], [])), (28, (.istore_n 3, 29, 0, 0, 0, [], [])), (29, (.aload_n 0, 30, 0, 0, 0, [], [])), (30, (.getfield 7, 33, 0, 0, 0, [], []))],
  [(33, (.iload_n 1, 34, 0, 0, 0, [], [])), (34, (.iconst 0, 35, 0, 0, 0, [], [])), (35, (.invokestatic 71, 38, 0, 0, 0, [], [])), (38, (.iload_n 2, 39, 0, 0, 0, [], [])), (39, (.iastore, 40, 0, 0, 0, [], [])), (40, (.iload_n 3, 41, 0, 0, 0, [], [])), (41, (.ireturn, 42, 0, 0, 0, [], []))]]
noncomputable abbrev zT_175 : zT := (12, zI_175, 1, 4) -- X12_graft
noncomputable def zI_176 : List (List (Nat × zE)) := [[(0, (.iload_n 1, 1, 0, 0, 0, [], [])), (1, (.i2l, 2, 0, 0, 0, [], [])), (2, (.lconst 0, 3, 0, 0, 0, [], [])), (3, (.lconst 1, 4, 0, 0, 1, [], [])), (4, (.invokestatic 67, 7, 0, 0, 0, [], [])), (7, (.ifCond .eq 15, 10, 22, 0, 0, [], [])), (10, (.iload_n 2, 11, 0, 0, 0, [], [])), (11, (.i2l, 12, 0, 0, 0, [], [])), (12, (.lconst 0, 13, 0, 0, 0, [], [])), (13, (.ldc2_w 78, 16, 0, 0, 9, [], [])), (16, (.invokestatic 67, 19, 0, 0, 0, [], [])), (19, (.ifCond .ne 5, 22, 24, 0, 0, [], [])), (22, (.iconst (-1), 23, 0, (-1), 0, [], [])), (23, (.ireturn, 24, 0, 0, 0, [], [])), (24, (.aload_n 0, 25, 0, 0, 0, [], [])), (25, (.getfield 7, 28, 0, 0, 0, [], [])), (28, (.iconst 4, 29, 0, 4, 0, [], [])), (29, (.iload_n 1, 30, 0, 0, 0, [], [])), (30, (.iadd, 31, 0, 0, 0, [], [])), (31, (.iaload, 32, 0, 0, 0, [], []))],
  [(32, (.istore_n 3, 33, 0, 0, 0, [], [])), (33, (.aload_n 0, 34, 0, 0, 0, [], [])), (34, (.getfield 7, 37, 0, 0, 0, [], [])), (37, (.iconst 4, 38, 0, 4, 0, [], [])), (38, (.iload_n 1, 39, 0, 0, 0, [], [])), (39, (.iadd, 40, 0, 0, 0, [], [])), (40, (.iload_n 2, 41, 0, 0, 0, [], [])), (41, (.iastore, 42, 0, 0, 0, [], [])), (42, (.iload_n 3, 43, 0, 0, 0, [], [])), (43, (.ireturn, 44, 0, 0, 0, [], []))]]
noncomputable abbrev zT_176 : zT := (12, zI_176, 1, 4) -- X12_weather
noncomputable def zI_177 : List (List (Nat × zE)) := [[(0, (.bipush 52, 2, 0, 52, 0, [], [])), (2, (.iconst 3, 3, 0, 3, 0, [], [])), (3, (.iload_n 0, 4, 0, 0, 0, [], [])), (4, (.imul, 5, 0, 0, 0, [], [])), (5, (.iadd, 6, 0, 0, 0, [], [])), (6, (.iload_n 1, 7, 0, 0, 0, [], [])), (7, (.iadd, 8, 0, 0, 0, [], [])), (8, (.ireturn, 9, 0, 0, 0, [], []))]]
noncomputable abbrev zT_177 : zT := (12, zI_177, 1, 2) -- X12_where
noncomputable def zI_178 : List (List (Nat × zE)) := [[(0, (.aload_n 0, 1, 0, 0, 0, [], [])), (1, (.getfield 7, 4, 0, 0, 0, [], [])), (4, (.iload_n 1, 5, 0, 0, 0, [], [])), (5, (.iload_n 2, 6, 0, 0, 0, [], [])), (6, (.invokestatic 143, 9, 0, 0, 0, [], [])), (9, (.iaload, 10, 0, 0, 0, [], [])), (10, (.ireturn, 11, 0, 0, 0, [], []))]]
noncomputable abbrev zT_178 : zT := (12, zI_178, 1, 3) -- X12_whose
noncomputable def zI_179 : List (List (Nat × zE)) := [[(0, (.aload_n 0, 1, 0, 0, 0, [], [])), (1, (.iload_n 1, 2, 0, 0, 0, [], [])), (2, (.iconst 2, 3, 0, 2, 0, [], [])), (3, (.invokevirtual 118, 6, 0, 0, 0, [], [])), (6, (.iconst 1, 7, 0, 1, 0, [], [])), (7, (.isub, 8, 0, 0, 0, [], [])), (8, (.ireturn, 9, 0, 0, 0, [], []))]]
noncomputable abbrev zT_179 : zT := (12, zI_179, 1, 2) -- X12_seatOf
noncomputable def zI_180 : List (List (Nat × zE)) := [[(0, (.aload_n 0, 1, 0, 0, 0, [], [])), (1, (.getfield 7, 4, 0, 0, 0, [], [])), (4, (.iload_n 1, 5, 0, 0, 0, [], [])), (5, (.iconst 2, 6, 0, 2, 0, [], [])), (6, (.invokestatic 143, 9, 0, 0, 0, [], [])), (9, (.iload_n 2, 10, 0, 0, 0, [], [])), (10, (.iconst 1, 11, 0, 1, 0, [], [])), (11, (.iadd, 12, 0, 0, 0, [], [])), (12, (.iastore, 13, 0, 0, 0, [], [])), (13, (.return_, 14, 0, 0, 0, [], []))]]
noncomputable abbrev zT_180 : zT := (12, zI_180, 0, 3) -- X12_seats
noncomputable def zI_181 : List (List (Nat × zE)) := [[(0, (.iload_n 1, 1, 0, 0, 0, [], [])), (1, (.i2l, 2, 0, 0, 0, [], [])), (2, (.lconst 1, 3, 0, 0, 1, [], [])), (3, (.ldc2_w 146, 6, 0, 0, 200, [], [])), (6, (.invokestatic 67, 9, 0, 0, 0, [], [])), (9, (.ifCond .eq 13, 12, 22, 0, 0, [], [])), (12, (.iload_n 2, 13, 0, 0, 0, [], [])), (13, (.i2l, 14, 0, 0, 0, [], [])), (14, (.lconst 0, 15, 0, 0, 0, [], [])), (15, (.lconst 1, 16, 0, 0, 1, [], [])), (16, (.invokestatic 67, 19, 0, 0, 0, [], [])), (19, (.ifCond .ne 5, 22, 24, 0, 0, [], [])), (22, (.iconst (-1), 23, 0, (-1), 0, [], [])), (23, (.ireturn, 24, 0, 0, 0, [], [])), (24, (.aload_n 0, 25, 0, 0, 0, [], [])), (25, (.getfield 7, 28, 0, 0, 0, [], [])), (28, (.iconst 2, 29, 0, 2, 0, [], [])), (29, (.iaload, 30, 3, 0, 0, [], [])), (30, (.bipush 8, 32, 0, 8, 0, [], []))],
  [(32, (.if_icmp .ne 6, 35, 38, 0, 0, [], [])), (35, (.bipush (-2), 37, 0, (-2), 0, [], [])), (37, (.ireturn, 38, 0, 0, 0, [], [])), (38, (.aload_n 0, 39, 0, 0, 0, [], [])), (39, (.getfield 7, 42, 0, 0, 0, [], [])), (42, (.iconst 2, 43, 0, 2, 0, [], [])), (43, (.iaload, 44, 3, 0, 0, [], [])), (44, (.istore_n 3, 45, 0, 0, 0, [], [])), (45, (.aload_n 0, 46, 0, 0, 0, [], [])), (46, (.getfield 7, 49, 0, 0, 0, [], [])), (49, (.iload_n 3, 50, 0, 0, 0, [], [])), (50, (.iconst 0, 51, 0, 0, 0, [], [])), (51, (.invokestatic 143, 54, 0, 0, 0, [], [])), (54, (.iload_n 1, 55, 0, 0, 0, [], [])), (55, (.iastore, 56, 0, 0, 0, [], [])), (56, (.aload_n 0, 57, 0, 0, 0, [], [])), (57, (.getfield 7, 60, 0, 0, 0, [], [])), (60, (.iload_n 3, 61, 0, 0, 0, [], [])), (61, (.iconst 1, 62, 0, 1, 0, [], [])), (62, (.invokestatic 143, 65, 0, 0, 0, [], []))],
  [(65, (.iload_n 2, 66, 0, 0, 0, [], [])), (66, (.iastore, 67, 0, 0, 0, [], [])), (67, (.aload_n 0, 68, 0, 0, 0, [], [])), (68, (.getfield 7, 71, 0, 0, 0, [], [])), (71, (.iload_n 3, 72, 0, 0, 0, [], [])), (72, (.iconst 2, 73, 0, 2, 0, [], [])), (73, (.invokestatic 143, 76, 0, 0, 0, [], [])), (76, (.iconst 0, 77, 0, 0, 0, [], [])), (77, (.iastore, 78, 0, 0, 0, [], [])), (78, (.aload_n 0, 79, 0, 0, 0, [], [])), (79, (.getfield 7, 82, 0, 0, 0, [], [])), (82, (.iconst 2, 83, 0, 2, 0, [], [])), (83, (.dup2, 84, 0, 0, 0, [], [])), (84, (.iaload, 85, 3, 0, 0, [], [])), (85, (.iconst 1, 86, 0, 1, 0, [], [])), (86, (.iadd, 87, 0, 0, 0, [], [])), (87, (.iastore, 88, 3, 0, 0, [], [])), (88, (.iload_n 3, 89, 0, 0, 0, [], [])), (89, (.ireturn, 90, 0, 0, 0, [], []))]]
noncomputable abbrev zT_181 : zT := (12, zI_181, 1, 4) -- X12_person
noncomputable def zI_182 : List (List (Nat × zE)) := [[(0, (.aload_n 0, 1, 0, 0, 0, [], [])), (1, (.iload_n 1, 2, 0, 0, 0, [], [])), (2, (.invokevirtual 115, 5, 0, 0, 0, [], [])), (5, (.ifCond .ge 8, 8, 13, 0, 0, [], [])), (8, (.bipush (-9), 10, 0, (-9), 0, [], [])), (10, (.goto 8, 13, 18, 0, 0, [], [])), (13, (.aload_n 0, 14, 0, 0, 0, [], [])), (14, (.iload_n 1, 15, 0, 0, 0, [], [])), (15, (.invokevirtual 115, 18, 0, 0, 0, [], [])), (18, (.ireturn, 19, 0, 0, 0, [], []))]]
noncomputable abbrev zT_182 : zT := (12, zI_182, 1, 2) -- X12_toldSeat
noncomputable def zI_183 : List (List (Nat × zE)) := [[(0, (.aload_n 0, 1, 0, 0, 0, [], [])), (1, (.iload_n 1, 2, 0, 0, 0, [], [])), (2, (.invokevirtual 148, 5, 0, 0, 0, [], [])), (5, (.ifCond .eq 15, 8, 20, 0, 0, [], [])), (8, (.iload_n 2, 9, 0, 0, 0, [], [])), (9, (.i2l, 10, 0, 0, 0, [], [])), (10, (.lconst 0, 11, 0, 0, 0, [], [])), (11, (.ldc2_w 151, 14, 0, 0, 2, [], [])), (14, (.invokestatic 67, 17, 0, 0, 0, [], [])), (17, (.ifCond .ne 5, 20, 22, 0, 0, [], [])), (20, (.iconst (-1), 21, 0, (-1), 0, [], [])), (21, (.ireturn, 22, 0, 0, 0, [], [])), (22, (.iload_n 2, 23, 0, 0, 0, [], [])), (23, (.iconst 2, 24, 0, 2, 0, [], [])), (24, (.if_icmp .ge 12, 27, 36, 0, 0, [], [])), (27, (.aload_n 0, 28, 0, 0, 0, [], [])), (28, (.iload_n 1, 29, 0, 0, 0, [], [])), (29, (.iload_n 2, 30, 0, 0, 0, [], [])), (30, (.invokevirtual 118, 33, 0, 0, 0, [], []))],
  [(33, (.goto 8, 36, 41, 0, 0, [], [])), (36, (.aload_n 0, 37, 0, 0, 0, [], [])), (37, (.iload_n 1, 38, 0, 0, 0, [], [])), (38, (.invokevirtual 153, 41, 0, 0, 0, [], [])), (41, (.ireturn, 42, 0, 0, 0, [], []))]]
noncomputable abbrev zT_183 : zT := (12, zI_183, 1, 3) -- X12_personOf
noncomputable def zI_184 : List (List (Nat × zE)) := [[(0, (.aload_n 0, 1, 0, 0, 0, [], [])), (1, (.iload_n 1, 2, 0, 0, 0, [], [])), (2, (.invokevirtual 148, 5, 0, 0, 0, [], [])), (5, (.ifCond .eq 11, 8, 16, 0, 0, [], [])), (8, (.aload_n 0, 9, 0, 0, 0, [], [])), (9, (.iload_n 2, 10, 0, 0, 0, [], [])), (10, (.invokevirtual 84, 13, 0, 0, 0, [], [])), (13, (.ifCond .ne 5, 16, 18, 0, 0, [], [])), (16, (.iconst (-1), 17, 0, (-1), 0, [], [])), (17, (.ireturn, 18, 0, 0, 0, [], [])), (18, (.aload_n 0, 19, 0, 0, 0, [], [])), (19, (.iload_n 2, 20, 0, 0, 0, [], [])), (20, (.invokevirtual 92, 23, 0, 0, 0, [], [])), (23, (.ifCond .eq 6, 26, 29, 0, 0, [], [])), (26, (.bipush (-4), 28, 0, (-4), 0, [], [])), (28, (.ireturn, 29, 0, 0, 0, [], [])), (29, (.aload_n 0, 30, 0, 0, 0, [], [])), (30, (.iload_n 1, 31, 0, 0, 0, [], [])), (31, (.invokevirtual 153, 34, 0, 0, 0, [], []))],
  [(34, (.istore_n 3, 35, 0, 0, 0, [], [])), (35, (.aload_n 0, 36, 0, 0, 0, [], [])), (36, (.iload_n 1, 37, 0, 0, 0, [], [])), (37, (.iload_n 2, 38, 0, 0, 0, [], [])), (38, (.invokevirtual 156, 41, 0, 0, 0, [], [])), (41, (.iload_n 3, 42, 0, 0, 0, [], [])), (42, (.ireturn, 43, 0, 0, 0, [], []))]]
noncomputable abbrev zT_184 : zT := (12, zI_184, 1, 4) -- X12_sit
noncomputable def zI_185 : List (List (Nat × zE)) := [[(0, (.aload_n 0, 1, 0, 0, 0, [], [])), (1, (.iload_n 1, 2, 0, 0, 0, [], [])), (2, (.invokevirtual 148, 5, 0, 0, 0, [], [])), (5, (.ifCond .ne 5, 8, 10, 0, 0, [], [])), (8, (.iconst (-1), 9, 0, (-1), 0, [], [])), (9, (.ireturn, 10, 0, 0, 0, [], [])), (10, (.aload_n 0, 11, 0, 0, 0, [], [])), (11, (.iload_n 1, 12, 0, 0, 0, [], [])), (12, (.invokevirtual 153, 15, 0, 0, 0, [], [])), (15, (.istore_n 2, 16, 0, 0, 0, [], [])), (16, (.aload_n 0, 17, 0, 0, 0, [], [])), (17, (.iload_n 1, 18, 0, 0, 0, [], [])), (18, (.iconst (-1), 19, 0, (-1), 0, [], [])), (19, (.invokevirtual 156, 22, 0, 0, 0, [], [])), (22, (.iload_n 2, 23, 0, 0, 0, [], [])), (23, (.ireturn, 24, 0, 0, 0, [], []))]]
noncomputable abbrev zT_185 : zT := (12, zI_185, 1, 3) -- X12_down
noncomputable def zI_186 : List (List (Nat × zE)) := [[(0, (.aload_n 0, 1, 0, 0, 0, [], [])), (1, (.invokevirtual 135, 4, 0, 0, 0, [], [])), (4, (.aload_n 0, 5, 0, 0, 0, [], [])), (5, (.invokevirtual 131, 8, 0, 0, 0, [], [])), (8, (.ireturn, 9, 0, 0, 0, [], []))]]
noncomputable abbrev zT_186 : zT := (12, zI_186, 1, 1) -- X12_cracks
noncomputable def zI_187 : List (List (Nat × zE)) := [[(0, (.aload_n 0, 1, 0, 0, 0, [], [])), (1, (.invokevirtual 125, 4, 0, 0, 0, [], [])), (4, (.iconst (-1), 5, 0, (-1), 0, [], [])), (5, (.istore_n 1, 6, 0, 0, 0, [], [])), (6, (.iconst 0, 7, 0, 0, 0, [], [])), (7, (.istore_n 2, 8, 0, 0, 0, [], [])), (8, (.iload_n 2, 9, 0, 0, 0, [], [true, true, true])), (9, (.aload_n 0, 10, 0, 0, 0, [], [])), (10, (.getfield 7, 13, 0, 0, 0, [], [])), (13, (.iconst 0, 14, 0, 0, 0, [], [])), (14, (.iaload, 15, 1, 0, 0, [], [])), (15, (.if_icmp .ge 56, 18, 71, 0, 0, [], [])), (18, (.aload_n 0, 19, 0, 0, 0, [], [])), (19, (.iload_n 2, 20, 0, 0, 0, [], [])), (20, (.invokevirtual 92, 23, 0, 0, 0, [], [])), (23, (.ifCond .ne 40, 26, 63, 0, 0, [], [])), (26, (.iload_n 1, 27, 0, 0, 0, [], [])), (27, (.ifCond .lt 32, 30, 59, 0, 0, [], [])), (30, (.aload_n 0, 31, 0, 0, 0, [], [])), (31, (.getfield 25, 34, 0, 0, 0, [], []))],
  [(34, (.iload_n 2, 35, 0, 0, 0, [], [])), (35, (.iaload, 36, 0, 0, 0, [], [])), (36, (.aload_n 0, 37, 0, 0, 0, [], [])), (37, (.getfield 22, 40, 0, 0, 0, [], [])), (40, (.iload_n 2, 41, 0, 0, 0, [], [])), (41, (.iaload, 42, 0, 0, 0, [], [])), (42, (.isub, 43, 0, 0, 0, [], [])), (43, (.aload_n 0, 44, 0, 0, 0, [], [])), (44, (.getfield 25, 47, 0, 0, 0, [], [])), (47, (.iload_n 1, 48, 0, 0, 0, [], [])), (48, (.iaload, 49, 0, 0, 0, [], [])), (49, (.aload_n 0, 50, 0, 0, 0, [], [])), (50, (.getfield 22, 53, 0, 0, 0, [], [])), (53, (.iload_n 1, 54, 0, 0, 0, [], [])), (54, (.iaload, 55, 0, 0, 0, [], [])), (55, (.isub, 56, 0, 0, 0, [], [])), (56, (.if_icmp .le 7, 59, 63, 0, 0, [], [])), (59, (.iload_n 2, 60, 0, 0, 0, [], [])), (60, (.goto 4, 63, 64, 0, 0, [], [])), (63, (.iload_n 1, 64, 0, 0, 0, [], []))],
  [(64, (.istore_n 1, 65, 0, 0, 0, [], [])), (65, (.iinc 2 1, 68, 0, 1, 0, [], [])), (68, (.goto (-60), 71, 8, 0, 0, [], [])), (71, (.iload_n 1, 72, 0, 0, 0, [], [])), (72, (.ireturn, 73, 0, 0, 0, [], []))]]
noncomputable abbrev zT_187 : zT := (12, zI_187, 1, 3) -- X12_worstOf
noncomputable def zI_188 : List (List (Nat × zE)) := [[(0, (.aload_n 0, 1, 0, 0, 0, [], [])), (1, (.invokevirtual 135, 4, 0, 0, 0, [], [])), (4, (.aload_n 0, 5, 0, 0, 0, [], [])), (5, (.invokevirtual 159, 8, 0, 0, 0, [], [])), (8, (.istore_n 1, 9, 0, 0, 0, [], [])), (9, (.iload_n 1, 10, 0, 0, 0, [], [])), (10, (.ifCond .ge 8, 13, 18, 0, 0, [], [])), (13, (.bipush (-3), 15, 0, (-3), 0, [], [])), (15, (.goto 4, 18, 19, 0, 0, [], [])), (18, (.iload_n 1, 19, 0, 0, 0, [], [])), (19, (.ireturn, 20, 0, 0, 0, [], []))]]
noncomputable abbrev zT_188 : zT := (12, zI_188, 1, 2) -- X12_worst
noncomputable def zI_189 : List (List (Nat × zE)) := [[(0, (.iload_n 1, 1, 0, 0, 0, [], [])), (1, (.istore_n 3, 2, 0, 0, 0, [], [])), (2, (.iload_n 3, 3, 0, 0, 0, [], [true, false, true, true])), (3, (.ifCond .lt 17, 6, 20, 0, 0, [], [])), (6, (.iload_n 3, 7, 0, 0, 0, [], [])), (7, (.iload_n 2, 8, 0, 0, 0, [], [])), (8, (.if_icmp .eq 12, 11, 20, 0, 0, [], [])), (11, (.aload_n 0, 12, 0, 0, 0, [], [])), (12, (.iload_n 3, 13, 0, 0, 0, [], [])), (13, (.invokevirtual 112, 16, 0, 0, 0, [], [])), (16, (.istore_n 3, 17, 0, 0, 0, [], [])), (17, (.goto (-15), 20, 2, 0, 0, [], [])), (20, (.iload_n 3, 21, 0, 0, 0, [], [])), (21, (.iload_n 2, 22, 0, 0, 0, [], [])), (22, (.if_icmp .ne 7, 25, 29, 0, 0, [], [])), (25, (.iconst 1, 26, 0, 1, 0, [], [])), (26, (.goto 4, 29, 30, 0, 0, [], [])), (29, (.iconst 0, 30, 0, 0, 0, [], [])), (30, (.ireturn, 31, 0, 0, 0, [], []))]]
noncomputable abbrev zT_189 : zT := (12, zI_189, 3, 4) -- X12_isAbove
noncomputable def zI_190 : List (List (Nat × zE)) := [[(0, (.aload_n 0, 1, 0, 0, 0, [], [])), (1, (.invokevirtual 135, 4, 0, 0, 0, [], [])), (4, (.iconst 0, 5, 0, 0, 0, [], [])), (5, (.istore_n 1, 6, 0, 0, 0, [], [])), (6, (.aload_n 0, 7, 0, 0, 0, [], [])), (7, (.invokevirtual 159, 10, 0, 0, 0, [], [])), (10, (.istore_n 2, 11, 0, 0, 0, [], [])), (11, (.iload_n 2, 12, 0, 0, 0, [], [true, true, true, false])), (12, (.ifCond .lt 114, 15, 126, 0, 0, [], [])), (15, (.aload_n 0, 16, 0, 0, 0, [], [])), (16, (.iload_n 2, 17, 0, 0, 0, [], [])), (17, (.invokevirtual 128, 20, 0, 0, 0, [], [])), (20, (.ifCond .eq 106, 23, 126, 0, 0, [], [])), (23, (.iconst 0, 24, 0, 0, 0, [], [])), (24, (.istore_n 3, 25, 0, 0, 0, [], [])), (25, (.iload_n 3, 26, 0, 0, 0, [], [true, true, true, true])), (26, (.aload_n 0, 27, 0, 0, 0, [], [])), (27, (.getfield 7, 30, 0, 0, 0, [], [])), (30, (.iconst 0, 31, 0, 0, 0, [], [])), (31, (.iaload, 32, 1, 0, 0, [], []))],
  [(32, (.if_icmp .ge 38, 35, 70, 0, 0, [], [])), (35, (.aload_n 0, 36, 0, 0, 0, [], [])), (36, (.getfield 7, 39, 0, 0, 0, [], [])), (39, (.iload_n 3, 40, 0, 0, 0, [], [])), (40, (.iconst 4, 41, 0, 4, 0, [], [])), (41, (.invokestatic 71, 44, 0, 0, 0, [], [])), (44, (.aload_n 0, 45, 0, 0, 0, [], [])), (45, (.iload_n 3, 46, 0, 0, 0, [], [])), (46, (.iload_n 2, 47, 0, 0, 0, [], [])), (47, (.invokevirtual 162, 50, 0, 0, 0, [], [])), (50, (.ifCond .eq 7, 53, 57, 0, 0, [], [])), (53, (.iconst 1, 54, 0, 1, 0, [], [])), (54, (.goto 9, 57, 63, 0, 0, [], [])), (57, (.aload_n 0, 58, 0, 0, 0, [], [])), (58, (.iload_n 3, 59, 0, 0, 0, [], [])), (59, (.iconst 4, 60, 0, 4, 0, [], [])), (60, (.invokevirtual 75, 63, 0, 0, 0, [], [])), (63, (.iastore, 64, 0, 0, 0, [], []))],
  [(64, (.iinc 3 1, 67, 0, 1, 0, [], [])), (67, (.goto (-42), 70, 25, 0, 0, [], [])), (70, (.iconst 0, 71, 0, 0, 0, [], [])), (71, (.istore_n 3, 72, 0, 0, 0, [], [])), (72, (.iload_n 3, 73, 0, 0, 0, [], [true, true, true, true])), (73, (.aload_n 0, 74, 0, 0, 0, [], [])), (74, (.getfield 7, 77, 0, 0, 0, [], [])), (77, (.iconst 2, 78, 0, 2, 0, [], [])), (78, (.iaload, 79, 3, 0, 0, [], [])), (79, (.if_icmp .ge 39, 82, 118, 0, 0, [], [])), (82, (.aload_n 0, 83, 0, 0, 0, [], [])), (83, (.iload_n 3, 84, 0, 0, 0, [], [])), (84, (.invokevirtual 115, 87, 0, 0, 0, [], [])), (87, (.ifCond .lt 25, 90, 112, 0, 0, [], [])), (90, (.aload_n 0, 91, 0, 0, 0, [], [])), (91, (.aload_n 0, 92, 0, 0, 0, [], [])), (92, (.iload_n 3, 93, 0, 0, 0, [], [])), (93, (.invokevirtual 115, 96, 0, 0, 0, [], []))],
  [(96, (.iload_n 2, 97, 0, 0, 0, [], [])), (97, (.invokevirtual 162, 100, 0, 0, 0, [], [])), (100, (.ifCond .eq 12, 103, 112, 0, 0, [], [])), (103, (.aload_n 0, 104, 0, 0, 0, [], [])), (104, (.iload_n 3, 105, 0, 0, 0, [], [])), (105, (.iconst (-1), 106, 0, (-1), 0, [], [])), (106, (.invokevirtual 156, 109, 0, 0, 0, [], [])), (109, (.iinc 1 1, 112, 0, 1, 0, [], [])), (112, (.iinc 3 1, 115, 0, 1, 0, [], [])), (115, (.goto (-43), 118, 72, 0, 0, [], [])), (118, (.aload_n 0, 119, 0, 0, 0, [], [])), (119, (.invokevirtual 159, 122, 0, 0, 0, [], [])), (122, (.istore_n 2, 123, 0, 0, 0, [], [])), (123, (.goto (-112), 126, 11, 0, 0, [], [])), (126, (.iload_n 1, 127, 0, 0, 0, [], [])), (127, (.ireturn, 128, 0, 0, 0, [], []))]]
noncomputable abbrev zT_190 : zT := (12, zI_190, 1, 4) -- X12_falls
noncomputable def zI_191 : List (List (Nat × zE)) := [[(0, (.aload_n 0, 1, 0, 0, 0, [], [])), (1, (.invokevirtual 165, 4, 0, 0, 0, [], [])), (4, (.ireturn, 5, 0, 0, 0, [], []))]]
noncomputable abbrev zT_191 : zT := (12, zI_191, 1, 1) -- X12_fall
noncomputable def zI_192 : List (List (Nat × zE)) := [[(0, (.aload_n 0, 1, 0, 0, 0, [], [])), (1, (.invokevirtual 168, 4, 0, 0, 0, [], [])), (4, (.aload_n 0, 5, 0, 0, 0, [], [])), (5, (.invokevirtual 165, 8, 0, 0, 0, [], [])), (8, (.istore_n 1, 9, 0, 0, 0, [], [])), (9, (.aload_n 0, 10, 0, 0, 0, [], [])), (10, (.invokevirtual 171, 13, 0, 0, 0, [], [])), (13, (.iload_n 1, 14, 0, 0, 0, [], [])), (14, (.ireturn, 15, 0, 0, 0, [], []))]]
noncomputable abbrev zT_192 : zT := (12, zI_192, 1, 2) -- X12_would
noncomputable def zI_193 : List (List (Nat × zE)) := [[(0, (.aload_n 0, 1, 0, 0, 0, [], [])), (1, (.invokevirtual 168, 4, 0, 0, 0, [], [])), (4, (.aload_n 0, 5, 0, 0, 0, [], [])), (5, (.invokevirtual 165, 8, 0, 0, 0, [], [])), (8, (.istore_n 1, 9, 0, 0, 0, [], [])), (9, (.aload_n 0, 10, 0, 0, 0, [], [])), (10, (.getfield 28, 13, 0, 0, 0, [], [])), (13, (.iconst 0, 14, 0, 0, 0, [], [])), (14, (.iconst 0, 15, 0, 0, 0, [], [])), (15, (.iastore, 16, 1, 0, 0, [], [])), (16, (.aload_n 0, 17, 0, 0, 0, [], [])), (17, (.getfield 28, 20, 0, 0, 0, [], [])), (20, (.iconst 1, 21, 0, 1, 0, [], [])), (21, (.iconst 0, 22, 0, 0, 0, [], [])), (22, (.iastore, 23, 2, 0, 0, [], [])), (23, (.iconst 0, 24, 0, 0, 0, [], [])), (24, (.istore_n 2, 25, 0, 0, 0, [], [])), (25, (.iload_n 2, 26, 0, 0, 0, [], [true, false, true])), (26, (.aload_n 0, 27, 0, 0, 0, [], [])), (27, (.getfield 7, 30, 0, 0, 0, [], [])), (30, (.iconst 2, 31, 0, 2, 0, [], [])), (31, (.iaload, 32, 3, 0, 0, [], []))],
  [(32, (.if_icmp .ge 41, 35, 73, 0, 0, [], [])), (35, (.aload_n 0, 36, 0, 0, 0, [], [])), (36, (.getfield 28, 39, 0, 0, 0, [], [])), (39, (.aload_n 0, 40, 0, 0, 0, [], [])), (40, (.iload_n 2, 41, 0, 0, 0, [], [])), (41, (.iconst 1, 42, 0, 1, 0, [], [])), (42, (.invokevirtual 118, 45, 0, 0, 0, [], [])), (45, (.dup2, 46, 0, 0, 0, [], [])), (46, (.iaload, 47, 0, 0, 0, [], [])), (47, (.aload_n 0, 48, 0, 0, 0, [], [])), (48, (.iload_n 2, 49, 0, 0, 0, [], [])), (49, (.invokevirtual 115, 52, 0, 0, 0, [], [])), (52, (.ifCond .ge 7, 55, 59, 0, 0, [], [])), (55, (.iconst 0, 56, 0, 0, 0, [], [])), (56, (.goto 9, 59, 65, 0, 0, [], [])), (59, (.aload_n 0, 60, 0, 0, 0, [], [])), (60, (.iload_n 2, 61, 0, 0, 0, [], [])), (61, (.iconst 0, 62, 0, 0, 0, [], [])), (62, (.invokevirtual 118, 65, 0, 0, 0, [], []))],
  [(65, (.iadd, 66, 0, 0, 0, [], [])), (66, (.iastore, 67, 0, 0, 0, [], [])), (67, (.iinc 2 1, 70, 0, 1, 0, [], [])), (70, (.goto (-45), 73, 25, 0, 0, [], [])), (73, (.aload_n 0, 74, 0, 0, 0, [], [])), (74, (.invokevirtual 171, 77, 0, 0, 0, [], [])), (77, (.return_, 78, 0, 0, 0, [], []))]]
noncomputable abbrev zT_193 : zT := (12, zI_193, 0, 3) -- X12_findStanding
noncomputable def zI_194 : List (List (Nat × zE)) := [[(0, (.iload_n 1, 1, 0, 0, 0, [], [])), (1, (.i2l, 2, 0, 0, 0, [], [])), (2, (.lconst 0, 3, 0, 0, 0, [], [])), (3, (.lconst 1, 4, 0, 0, 1, [], [])), (4, (.invokestatic 67, 7, 0, 0, 0, [], [])), (7, (.ifCond .ne 5, 10, 12, 0, 0, [], [])), (10, (.iconst (-1), 11, 0, (-1), 0, [], [])), (11, (.ireturn, 12, 0, 0, 0, [], [])), (12, (.aload_n 0, 13, 0, 0, 0, [], [])), (13, (.invokevirtual 174, 16, 0, 0, 0, [], [])), (16, (.aload_n 0, 17, 0, 0, 0, [], [])), (17, (.getfield 28, 20, 0, 0, 0, [], [])), (20, (.iload_n 1, 21, 0, 0, 0, [], [])), (21, (.iaload, 22, 0, 0, 0, [], [])), (22, (.ireturn, 23, 0, 0, 0, [], []))]]
noncomputable abbrev zT_194 : zT := (12, zI_194, 1, 2) -- X12_standing
noncomputable def zI_195 : List (List (Nat × zE)) := [[(0, (.aload_n 0, 1, 0, 0, 0, [], [])), (1, (.invokevirtual 174, 4, 0, 0, 0, [], [])), (4, (.aload_n 0, 5, 0, 0, 0, [], [])), (5, (.getfield 28, 8, 0, 0, 0, [], [])), (8, (.iconst 0, 9, 0, 0, 0, [], [])), (9, (.iaload, 10, 1, 0, 0, [], [])), (10, (.aload_n 0, 11, 0, 0, 0, [], [])), (11, (.getfield 28, 14, 0, 0, 0, [], [])), (14, (.iconst 1, 15, 0, 1, 0, [], [])), (15, (.iaload, 16, 2, 0, 0, [], [])), (16, (.if_icmp .le 7, 19, 23, 0, 0, [], [])), (19, (.iconst 0, 20, 0, 0, 0, [], [])), (20, (.goto 23, 23, 43, 0, 0, [], [])), (23, (.aload_n 0, 24, 0, 0, 0, [], [])), (24, (.getfield 28, 27, 0, 0, 0, [], [])), (27, (.iconst 1, 28, 0, 1, 0, [], [])), (28, (.iaload, 29, 2, 0, 0, [], [])), (29, (.aload_n 0, 30, 0, 0, 0, [], [])), (30, (.getfield 28, 33, 0, 0, 0, [], []))],
  [(33, (.iconst 0, 34, 0, 0, 0, [], [])), (34, (.iaload, 35, 1, 0, 0, [], [])), (35, (.if_icmp .le 7, 38, 42, 0, 0, [], [])), (38, (.iconst 1, 39, 0, 1, 0, [], [])), (39, (.goto 4, 42, 43, 0, 0, [], [])), (42, (.iconst 2, 43, 0, 2, 0, [], [])), (43, (.ireturn, 44, 0, 0, 0, [], []))]]
noncomputable abbrev zT_195 : zT := (12, zI_195, 1, 1) -- X12_verdict
noncomputable def zI_196 : List (List (Nat × zE)) := [[(0, (.aload_n 0, 1, 0, 0, 0, [], [])), (1, (.getfield 22, 4, 0, 0, 0, [], [])), (4, (.iload_n 1, 5, 0, 0, 0, [], [])), (5, (.iaload, 6, 0, 0, 0, [], [])), (6, (.aload_n 0, 7, 0, 0, 0, [], [])), (7, (.getfield 25, 10, 0, 0, 0, [], [])), (10, (.iload_n 1, 11, 0, 0, 0, [], [])), (11, (.iaload, 12, 0, 0, 0, [], [])), (12, (.isub, 13, 0, 0, 0, [], [])), (13, (.istore_n 2, 14, 0, 0, 0, [], [])), (14, (.iload_n 1, 15, 0, 0, 0, [], [])), (15, (.istore_n 3, 16, 0, 0, 0, [], [])), (16, (.iload_n 3, 17, 0, 0, 0, [], [true, false, true, true])), (17, (.ifCond .lt 47, 20, 64, 0, 0, [], [])), (20, (.aload_n 0, 21, 0, 0, 0, [], [])), (21, (.getfield 22, 24, 0, 0, 0, [], [])), (24, (.iload_n 3, 25, 0, 0, 0, [], [])), (25, (.iaload, 26, 0, 0, 0, [], [])), (26, (.aload_n 0, 27, 0, 0, 0, [], [])), (27, (.getfield 25, 30, 0, 0, 0, [], [])), (30, (.iload_n 3, 31, 0, 0, 0, [], [])), (31, (.iaload, 32, 0, 0, 0, [], []))],
  [(32, (.isub, 33, 0, 0, 0, [], [])), (33, (.iload_n 2, 34, 0, 0, 0, [], [])), (34, (.if_icmp .ge 19, 37, 53, 0, 0, [], [])), (37, (.aload_n 0, 38, 0, 0, 0, [], [])), (38, (.getfield 22, 41, 0, 0, 0, [], [])), (41, (.iload_n 3, 42, 0, 0, 0, [], [])), (42, (.iaload, 43, 0, 0, 0, [], [])), (43, (.aload_n 0, 44, 0, 0, 0, [], [])), (44, (.getfield 25, 47, 0, 0, 0, [], [])), (47, (.iload_n 3, 48, 0, 0, 0, [], [])), (48, (.iaload, 49, 0, 0, 0, [], [])), (49, (.isub, 50, 0, 0, 0, [], [])), (50, (.goto 4, 53, 54, 0, 0, [], [])), (53, (.iload_n 2, 54, 0, 0, 0, [], [])), (54, (.istore_n 2, 55, 0, 0, 0, [], [])), (55, (.aload_n 0, 56, 0, 0, 0, [], [])), (56, (.iload_n 3, 57, 0, 0, 0, [], [])), (57, (.invokevirtual 112, 60, 0, 0, 0, [], [])), (60, (.istore_n 3, 61, 0, 0, 0, [], [])), (61, (.goto (-45), 64, 16, 0, 0, [], []))],
  [(64, (.iload_n 2, 65, 0, 0, 0, [], [])), (65, (.ifCond .ge 7, 68, 72, 0, 0, [], [])), (68, (.iconst 0, 69, 0, 0, 0, [], [])), (69, (.goto 4, 72, 73, 0, 0, [], [])), (72, (.iload_n 2, 73, 0, 0, 0, [], [])), (73, (.ireturn, 74, 0, 0, 0, [], []))]]
noncomputable abbrev zT_196 : zT := (12, zI_196, 1, 4) -- X12_roomOf
noncomputable def zI_197 : List (List (Nat × zE)) := [[(0, (.aload_n 0, 1, 0, 0, 0, [], [])), (1, (.iload_n 1, 2, 0, 0, 0, [], [])), (2, (.invokevirtual 84, 5, 0, 0, 0, [], [])), (5, (.ifCond .ne 5, 8, 10, 0, 0, [], [])), (8, (.iconst (-1), 9, 0, (-1), 0, [], [])), (9, (.ireturn, 10, 0, 0, 0, [], [])), (10, (.aload_n 0, 11, 0, 0, 0, [], [])), (11, (.iload_n 1, 12, 0, 0, 0, [], [])), (12, (.invokevirtual 92, 15, 0, 0, 0, [], [])), (15, (.ifCond .eq 6, 18, 21, 0, 0, [], [])), (18, (.bipush (-4), 20, 0, (-4), 0, [], [])), (20, (.ireturn, 21, 0, 0, 0, [], [])), (21, (.aload_n 0, 22, 0, 0, 0, [], [])), (22, (.invokevirtual 140, 25, 0, 0, 0, [], [])), (25, (.aload_n 0, 26, 0, 0, 0, [], [])), (26, (.iload_n 1, 27, 0, 0, 0, [], [])), (27, (.invokevirtual 177, 30, 0, 0, 0, [], [])), (30, (.ireturn, 31, 0, 0, 0, [], []))]]
noncomputable abbrev zT_197 : zT := (12, zI_197, 1, 2) -- X12_room
noncomputable def zI_198 : List (List (Nat × zE)) := [[(0, (.aload_n 0, 1, 0, 0, 0, [], [])), (1, (.iload_n 1, 2, 0, 0, 0, [], [])), (2, (.invokevirtual 148, 5, 0, 0, 0, [], [])), (5, (.ifCond .ne 5, 8, 10, 0, 0, [], [])), (8, (.iconst (-1), 9, 0, (-1), 0, [], [])), (9, (.ireturn, 10, 0, 0, 0, [], [])), (10, (.aload_n 0, 11, 0, 0, 0, [], [])), (11, (.iload_n 1, 12, 0, 0, 0, [], [])), (12, (.invokevirtual 115, 15, 0, 0, 0, [], [])), (15, (.istore_n 2, 16, 0, 0, 0, [], [])), (16, (.aload_n 0, 17, 0, 0, 0, [], [])), (17, (.iload_n 1, 18, 0, 0, 0, [], [])), (18, (.iconst (-1), 19, 0, (-1), 0, [], [])), (19, (.invokevirtual 156, 22, 0, 0, 0, [], [])), (22, (.aload_n 0, 23, 0, 0, 0, [], [])), (23, (.invokevirtual 140, 26, 0, 0, 0, [], [])), (26, (.aload_n 0, 27, 0, 0, 0, [], [])), (27, (.iload_n 1, 28, 0, 0, 0, [], [])), (28, (.iload_n 2, 29, 0, 0, 0, [], [])), (29, (.invokevirtual 156, 32, 0, 0, 0, [], []))],
  [(32, (.iconst (-1), 33, 0, (-1), 0, [], [])), (33, (.istore_n 3, 34, 0, 0, 0, [], [])), (34, (.iconst 0, 35, 0, 0, 0, [], [])), (35, (.istore 4, 37, 0, 0, 0, [], [])), (37, (.iload 4, 39, 0, 0, 0, [], [true, false, false, true, true])), (39, (.aload_n 0, 40, 0, 0, 0, [], [])), (40, (.getfield 7, 43, 0, 0, 0, [], [])), (43, (.iconst 0, 44, 0, 0, 0, [], [])), (44, (.iaload, 45, 1, 0, 0, [], [])), (45, (.if_icmp .ge 43, 48, 88, 0, 0, [], [])), (48, (.aload_n 0, 49, 0, 0, 0, [], [])), (49, (.iload 4, 51, 0, 0, 0, [], [])), (51, (.invokevirtual 92, 54, 0, 0, 0, [], [])), (54, (.ifCond .ne 26, 57, 80, 0, 0, [], [])), (57, (.iload_n 3, 58, 0, 0, 0, [], [])), (58, (.ifCond .lt 17, 61, 75, 0, 0, [], [])), (61, (.aload_n 0, 62, 0, 0, 0, [], [])), (62, (.iload 4, 64, 0, 0, 0, [], []))],
  [(64, (.invokevirtual 177, 67, 0, 0, 0, [], [])), (67, (.aload_n 0, 68, 0, 0, 0, [], [])), (68, (.iload_n 3, 69, 0, 0, 0, [], [])), (69, (.invokevirtual 177, 72, 0, 0, 0, [], [])), (72, (.if_icmp .le 8, 75, 80, 0, 0, [], [])), (75, (.iload 4, 77, 0, 0, 0, [], [])), (77, (.goto 4, 80, 81, 0, 0, [], [])), (80, (.iload_n 3, 81, 0, 0, 0, [], [])), (81, (.istore_n 3, 82, 0, 0, 0, [], [])), (82, (.iinc 4 1, 85, 0, 1, 0, [], [])), (85, (.goto (-48), 88, 37, 0, 0, [], [])), (88, (.iload_n 3, 89, 0, 0, 0, [], [])), (89, (.ifCond .ge 8, 92, 97, 0, 0, [], [])), (92, (.bipush (-3), 94, 0, (-3), 0, [], [])), (94, (.goto 4, 97, 98, 0, 0, [], []))],
  [(97, (.iload_n 3, 98, 0, 0, 0, [], [])), (98, (.ireturn, 99, 0, 0, 0, [], []))]]
noncomputable abbrev zT_198 : zT := (12, zI_198, 1, 5) -- X12_best
noncomputable def zI_199 : List (List (Nat × zE)) := [[(0, (.aload_n 0, 1, 0, 0, 0, [], [])), (1, (.iload_n 1, 2, 0, 0, 0, [], [])), (2, (.invokevirtual 148, 5, 0, 0, 0, [], [])), (5, (.ifCond .ne 5, 8, 10, 0, 0, [], [])), (8, (.iconst (-1), 9, 0, (-1), 0, [], [])), (9, (.ireturn, 10, 0, 0, 0, [], [])), (10, (.aload_n 0, 11, 0, 0, 0, [], [])), (11, (.invokevirtual 135, 14, 0, 0, 0, [], [])), (14, (.aload_n 0, 15, 0, 0, 0, [], [])), (15, (.iload_n 1, 16, 0, 0, 0, [], [])), (16, (.invokevirtual 115, 19, 0, 0, 0, [], [])), (19, (.istore_n 2, 20, 0, 0, 0, [], [])), (20, (.iconst 0, 21, 0, 0, 0, [], [])), (21, (.istore_n 3, 22, 0, 0, 0, [], [])), (22, (.iconst 0, 23, 0, 0, 0, [], [])), (23, (.istore 4, 25, 0, 0, 0, [], [])), (25, (.iload 4, 27, 0, 0, 0, [], [true, true, true, true, true])), (27, (.aload_n 0, 28, 0, 0, 0, [], [])), (28, (.getfield 7, 31, 0, 0, 0, [], [])), (31, (.iconst 0, 32, 0, 0, 0, [], []))],
  [(32, (.iaload, 33, 1, 0, 0, [], [])), (33, (.if_icmp .ge 43, 36, 76, 0, 0, [], [])), (36, (.aload_n 0, 37, 0, 0, 0, [], [])), (37, (.iload 4, 39, 0, 0, 0, [], [])), (39, (.invokevirtual 92, 42, 0, 0, 0, [], [])), (42, (.ifCond .ne 28, 45, 70, 0, 0, [], [])), (45, (.aload_n 0, 46, 0, 0, 0, [], [])), (46, (.iload_n 1, 47, 0, 0, 0, [], [])), (47, (.iload 4, 49, 0, 0, 0, [], [])), (49, (.invokevirtual 156, 52, 0, 0, 0, [], [])), (52, (.iload_n 3, 53, 0, 0, 0, [], [])), (53, (.aload_n 0, 54, 0, 0, 0, [], [])), (54, (.invokevirtual 180, 57, 0, 0, 0, [], [])), (57, (.ifCond .eq 10, 60, 67, 0, 0, [], [])), (60, (.iconst 1, 61, 0, 1, 0, [], [])), (61, (.iload 4, 63, 0, 0, 0, [], [])), (63, (.ishl, 64, 0, 0, 0, [], []))],
  [(64, (.goto 4, 67, 68, 0, 0, [], [])), (67, (.iconst 0, 68, 0, 0, 0, [], [])), (68, (.ior, 69, 0, 0, 0, [], [])), (69, (.istore_n 3, 70, 0, 0, 0, [], [])), (70, (.iinc 4 1, 73, 0, 1, 0, [], [])), (73, (.goto (-48), 76, 25, 0, 0, [], [])), (76, (.aload_n 0, 77, 0, 0, 0, [], [])), (77, (.iload_n 1, 78, 0, 0, 0, [], [])), (78, (.iload_n 2, 79, 0, 0, 0, [], [])), (79, (.invokevirtual 156, 82, 0, 0, 0, [], [])), (82, (.iload_n 3, 83, 0, 0, 0, [], [])), (83, (.ireturn, 84, 0, 0, 0, [], []))]]
noncomputable abbrev zT_199 : zT := (12, zI_199, 1, 5) -- X12_safe
noncomputable def zI_200 : List (List (Nat × zE)) := [[(0, (.aload_n 0, 1, 0, 0, 0, [], [])), (1, (.invokevirtual 174, 4, 0, 0, 0, [], [])), (4, (.aload_n 0, 5, 0, 0, 0, [], [])), (5, (.getfield 28, 8, 0, 0, 0, [], [])), (8, (.iconst 0, 9, 0, 0, 0, [], [])), (9, (.iaload, 10, 1, 0, 0, [], [])), (10, (.aload_n 0, 11, 0, 0, 0, [], [])), (11, (.getfield 28, 14, 0, 0, 0, [], [])), (14, (.iconst 1, 15, 0, 1, 0, [], [])), (15, (.iaload, 16, 2, 0, 0, [], [])), (16, (.iadd, 17, 0, 0, 0, [], [])), (17, (.istore_n 1, 18, 0, 0, 0, [], [])), (18, (.bipush (-3), 20, 0, (-3), 0, [], [])), (20, (.istore_n 2, 21, 0, 0, 0, [], [])), (21, (.iconst 0, 22, 0, 0, 0, [], [])), (22, (.istore_n 3, 23, 0, 0, 0, [], [])), (23, (.iload_n 3, 24, 0, 0, 0, [], [true, true, true, true, false])), (24, (.aload_n 0, 25, 0, 0, 0, [], [])), (25, (.getfield 7, 28, 0, 0, 0, [], [])), (28, (.iconst 0, 29, 0, 0, 0, [], [])), (29, (.iaload, 30, 1, 0, 0, [], [])), (30, (.if_icmp .ge 102, 33, 132, 0, 0, [], []))],
  [(33, (.aload_n 0, 34, 0, 0, 0, [], [])), (34, (.iload_n 3, 35, 0, 0, 0, [], [])), (35, (.iconst 0, 36, 0, 0, 0, [], [])), (36, (.invokevirtual 75, 39, 0, 0, 0, [], [])), (39, (.istore 4, 41, 0, 0, 0, [], [])), (41, (.aload_n 0, 42, 0, 0, 0, [], [])), (42, (.getfield 7, 45, 0, 0, 0, [], [])), (45, (.iload_n 3, 46, 0, 0, 0, [], [])), (46, (.iconst 0, 47, 0, 0, 0, [], [])), (47, (.invokestatic 71, 50, 0, 0, 0, [], [])), (50, (.iconst 4, 51, 0, 4, 0, [], [])), (51, (.iastore, 52, 0, 0, 0, [], [])), (52, (.aload_n 0, 53, 0, 0, 0, [], [])), (53, (.invokevirtual 174, 56, 0, 0, 0, [], [])), (56, (.aload_n 0, 57, 0, 0, 0, [], [])), (57, (.getfield 7, 60, 0, 0, 0, [], [])), (60, (.iload_n 3, 61, 0, 0, 0, [], [])), (61, (.iconst 0, 62, 0, 0, 0, [], [])), (62, (.invokestatic 71, 65, 0, 0, 0, [], []))],
  [(65, (.iload 4, 67, 0, 0, 0, [], [])), (67, (.iastore, 68, 0, 0, 0, [], [])), (68, (.aload_n 0, 69, 0, 0, 0, [], [])), (69, (.getfield 28, 72, 0, 0, 0, [], [])), (72, (.iconst 0, 73, 0, 0, 0, [], [])), (73, (.iaload, 74, 1, 0, 0, [], [])), (74, (.aload_n 0, 75, 0, 0, 0, [], [])), (75, (.getfield 28, 78, 0, 0, 0, [], [])), (78, (.iconst 1, 79, 0, 1, 0, [], [])), (79, (.iaload, 80, 2, 0, 0, [], [])), (80, (.iadd, 81, 0, 0, 0, [], [])), (81, (.iload_n 1, 82, 0, 0, 0, [], [])), (82, (.if_icmp .le 7, 85, 89, 0, 0, [], [])), (85, (.iload_n 3, 86, 0, 0, 0, [], [])), (86, (.goto 4, 89, 90, 0, 0, [], [])), (89, (.iload_n 2, 90, 0, 0, 0, [], [])), (90, (.istore_n 2, 91, 0, 0, 0, [], [true, true, false, true, false])), (91, (.aload_n 0, 92, 0, 0, 0, [], [])), (92, (.getfield 28, 95, 0, 0, 0, [], [])), (95, (.iconst 0, 96, 0, 0, 0, [], []))],
  [(96, (.iaload, 97, 1, 0, 0, [], [])), (97, (.aload_n 0, 98, 0, 0, 0, [], [])), (98, (.getfield 28, 101, 0, 0, 0, [], [])), (101, (.iconst 1, 102, 0, 1, 0, [], [])), (102, (.iaload, 103, 2, 0, 0, [], [])), (103, (.iadd, 104, 0, 0, 0, [], [])), (104, (.iload_n 1, 105, 0, 0, 0, [], [])), (105, (.if_icmp .le 19, 108, 124, 0, 0, [], [])), (108, (.aload_n 0, 109, 0, 0, 0, [], [])), (109, (.getfield 28, 112, 0, 0, 0, [], [])), (112, (.iconst 0, 113, 0, 0, 0, [], [])), (113, (.iaload, 114, 1, 0, 0, [], [])), (114, (.aload_n 0, 115, 0, 0, 0, [], [])), (115, (.getfield 28, 118, 0, 0, 0, [], [])), (118, (.iconst 1, 119, 0, 1, 0, [], [])), (119, (.iaload, 120, 2, 0, 0, [], [])), (120, (.iadd, 121, 0, 0, 0, [], [])), (121, (.goto 4, 124, 125, 0, 0, [], [])), (124, (.iload_n 1, 125, 0, 0, 0, [], [])), (125, (.istore_n 1, 126, 0, 0, 0, [], [])), (126, (.iinc 3 1, 129, 0, 1, 0, [], []))],
  [(129, (.goto (-106), 132, 23, 0, 0, [], [])), (132, (.iload_n 2, 133, 0, 0, 0, [], [])), (133, (.ireturn, 134, 0, 0, 0, [], []))]]
noncomputable abbrev zT_200 : zT := (12, zI_200, 1, 5) -- X12_prop
noncomputable def zI_201 : List (List (Nat × zE)) := [[(0, (.aload_n 0, 1, 0, 0, 0, [], [])), (1, (.getfield 7, 4, 0, 0, 0, [], [])), (4, (.iconst 4, 5, 0, 4, 0, [], [])), (5, (.iload_n 1, 6, 0, 0, 0, [], [])), (6, (.iadd, 7, 0, 0, 0, [], [])), (7, (.iaload, 8, 0, 0, 0, [], [])), (8, (.istore_n 3, 9, 0, 0, 0, [], [])), (9, (.bipush (-3), 11, 0, (-3), 0, [], [])), (11, (.istore 4, 13, 0, 0, 0, [], [])), (13, (.iconst 0, 14, 0, 0, 0, [], [])), (14, (.istore 5, 16, 0, 0, 0, [], [])), (16, (.iload 5, 18, 0, 0, 0, [], [true, true, true, true, true, true])), (18, (.bipush 10, 20, 0, 10, 0, [], [])), (20, (.if_icmp .ge 45, 23, 65, 0, 0, [], [])), (23, (.iload 4, 25, 0, 0, 0, [], [])), (25, (.ifCond .ge 40, 28, 65, 0, 0, [], [])), (28, (.aload_n 0, 29, 0, 0, 0, [], [])), (29, (.getfield 7, 32, 0, 0, 0, [], []))],
  [(32, (.iconst 4, 33, 0, 4, 0, [], [])), (33, (.iload_n 1, 34, 0, 0, 0, [], [])), (34, (.iadd, 35, 0, 0, 0, [], [])), (35, (.iload 5, 37, 0, 0, 0, [], [])), (37, (.iastore, 38, 0, 0, 0, [], [])), (38, (.aload_n 0, 39, 0, 0, 0, [], [])), (39, (.invokevirtual 135, 42, 0, 0, 0, [], [])), (42, (.aload_n 0, 43, 0, 0, 0, [], [])), (43, (.invokevirtual 180, 46, 0, 0, 0, [], [])), (46, (.iload_n 2, 47, 0, 0, 0, [], [])), (47, (.if_icmp .ne 8, 50, 55, 0, 0, [], [])), (50, (.iload 5, 52, 0, 0, 0, [], [])), (52, (.goto 5, 55, 57, 0, 0, [], [])), (55, (.bipush (-3), 57, 0, (-3), 0, [], [])), (57, (.istore 4, 59, 0, 0, 0, [], [])), (59, (.iinc 5 1, 62, 0, 1, 0, [], [])), (62, (.goto (-46), 65, 16, 0, 0, [], []))],
  [(65, (.aload_n 0, 66, 0, 0, 0, [], [])), (66, (.getfield 7, 69, 0, 0, 0, [], [])), (69, (.iconst 4, 70, 0, 4, 0, [], [])), (70, (.iload_n 1, 71, 0, 0, 0, [], [])), (71, (.iadd, 72, 0, 0, 0, [], [])), (72, (.iload_n 3, 73, 0, 0, 0, [], [])), (73, (.iastore, 74, 0, 0, 0, [], [])), (74, (.iload 4, 76, 0, 0, 0, [], [])), (76, (.ireturn, 77, 0, 0, 0, [], []))]]
noncomputable abbrev zT_201 : zT := (12, zI_201, 1, 6) -- X12_leastOf
noncomputable def zI_202 : List (List (Nat × zE)) := [[(0, (.aload_n 0, 1, 0, 0, 0, [], [])), (1, (.iconst 1, 2, 0, 1, 0, [], [])), (2, (.iconst 0, 3, 0, 0, 0, [], [])), (3, (.invokevirtual 184, 6, 0, 0, 0, [], [])), (6, (.ireturn, 7, 0, 0, 0, [], []))]]
noncomputable abbrev zT_202 : zT := (12, zI_202, 1, 1) -- X12_windFor
noncomputable def zI_203 : List (List (Nat × zE)) := [[(0, (.aload_n 0, 1, 0, 0, 0, [], [])), (1, (.iconst 0, 2, 0, 0, 0, [], [])), (2, (.iconst 1, 3, 0, 1, 0, [], [])), (3, (.invokevirtual 184, 6, 0, 0, 0, [], [])), (6, (.ireturn, 7, 0, 0, 0, [], []))]]
noncomputable abbrev zT_203 : zT := (12, zI_203, 1, 1) -- X12_sapFor
noncomputable def zI_204 : List (List (Nat × zE)) := [[(0, (.iconst 0, 1, 0, 0, 0, [], [])), (1, (.istore_n 1, 2, 0, 0, 0, [], [])), (2, (.iload_n 0, 3, 0, 0, 0, [], [])), (3, (.istore_n 2, 4, 0, 0, 0, [], [])), (4, (.iload_n 2, 5, 0, 0, 0, [], [false, true, true])), (5, (.ifCond .eq 15, 8, 20, 0, 0, [], [])), (8, (.iinc 1 1, 11, 0, 1, 0, [], [])), (11, (.iload_n 2, 12, 0, 0, 0, [], [])), (12, (.iload_n 2, 13, 0, 0, 0, [], [])), (13, (.iconst 1, 14, 0, 1, 0, [], [])), (14, (.isub, 15, 0, 0, 0, [], [])), (15, (.iand, 16, 0, 0, 0, [], [])), (16, (.istore_n 2, 17, 0, 0, 0, [], [])), (17, (.goto (-13), 20, 4, 0, 0, [], [])), (20, (.iload_n 1, 21, 0, 0, 0, [], [])), (21, (.ireturn, 22, 0, 0, 0, [], []))]]
noncomputable abbrev zT_204 : zT := (12, zI_204, 1, 3) -- X12_ones
noncomputable def zI_205 : List (List (Nat × zE)) := [[(0, (.iload_n 1, 1, 0, 0, 0, [], [])), (1, (.i2l, 2, 0, 0, 0, [], [])), (2, (.lconst 0, 3, 0, 0, 0, [], [])), (3, (.iconst 1, 4, 0, 1, 0, [], [])), (4, (.aload_n 0, 5, 0, 0, 0, [], [])), (5, (.getfield 7, 8, 0, 0, 0, [], [])), (8, (.iconst 2, 9, 0, 2, 0, [], [])), (9, (.iaload, 10, 3, 0, 0, [], [])), (10, (.ishl, 11, 0, 0, 0, [], [])), (11, (.iconst 1, 12, 0, 1, 0, [], [])), (12, (.isub, 13, 0, 0, 0, [], [])), (13, (.i2l, 14, 0, 0, 0, [], [])), (14, (.invokestatic 67, 17, 0, 0, 0, [], [])), (17, (.ifCond .eq 15, 20, 32, 0, 0, [], [])), (20, (.iload_n 1, 21, 0, 0, 0, [], [])), (21, (.invokestatic 188, 24, 0, 0, 0, [], [])), (24, (.iconst 5, 25, 0, 5, 0, [], [])), (25, (.if_icmp .ge 7, 28, 32, 0, 0, [], [])), (28, (.iconst 1, 29, 0, 1, 0, [], [])), (29, (.goto 4, 32, 33, 0, 0, [], []))],
  [(32, (.iconst 0, 33, 0, 0, 0, [], [])), (33, (.ireturn, 34, 0, 0, 0, [], []))]]
noncomputable abbrev zT_205 : zT := (12, zI_205, 3, 2) -- X12_isParty
noncomputable def zI_206 : List (List (Nat × zE)) := [[(0, (.iload_n 1, 1, 0, 0, 0, [], [])), (1, (.aload_n 0, 2, 0, 0, 0, [], [])), (2, (.getfield 191, 5, 0, 0, 0, [], [])), (5, (.if_icmp .ne 8, 8, 13, 0, 0, [], [])), (8, (.aload_n 0, 9, 0, 0, 0, [], [])), (9, (.invokevirtual 180, 12, 0, 0, 0, [], [])), (12, (.ireturn, 13, 0, 0, 0, [], [])), (13, (.iconst 0, 14, 0, 0, 0, [], [])), (14, (.istore_n 2, 15, 0, 0, 0, [], [])), (15, (.iload_n 2, 16, 0, 0, 0, [], [true, true, true])), (16, (.aload_n 0, 17, 0, 0, 0, [], [])), (17, (.getfield 7, 20, 0, 0, 0, [], [])), (20, (.iconst 0, 21, 0, 0, 0, [], [])), (21, (.iaload, 22, 1, 0, 0, [], [])), (22, (.if_icmp .ge 47, 25, 69, 0, 0, [], [])), (25, (.aload_n 0, 26, 0, 0, 0, [], [])), (26, (.iload_n 2, 27, 0, 0, 0, [], [])), (27, (.invokevirtual 92, 30, 0, 0, 0, [], [])), (30, (.ifCond .ne 33, 33, 63, 0, 0, [], []))],
  [(33, (.aload_n 0, 34, 0, 0, 0, [], [])), (34, (.aload_n 0, 35, 0, 0, 0, [], [])), (35, (.getfield 31, 38, 0, 0, 0, [], [])), (38, (.iload_n 1, 39, 0, 0, 0, [], [])), (39, (.iaload, 40, 0, 0, 0, [], [])), (40, (.iload_n 2, 41, 0, 0, 0, [], [])), (41, (.invokevirtual 156, 44, 0, 0, 0, [], [])), (44, (.aload_n 0, 45, 0, 0, 0, [], [])), (45, (.getfield 37, 48, 0, 0, 0, [], [])), (48, (.iload_n 1, 49, 0, 0, 0, [], [])), (49, (.iload_n 2, 50, 0, 0, 0, [], [])), (50, (.iastore, 51, 0, 0, 0, [], [])), (51, (.aload_n 0, 52, 0, 0, 0, [], [])), (52, (.iload_n 1, 53, 0, 0, 0, [], [])), (53, (.iconst 1, 54, 0, 1, 0, [], [])), (54, (.iadd, 55, 0, 0, 0, [], [])), (55, (.invokevirtual 195, 58, 0, 0, 0, [], [])), (58, (.ifCond .eq 5, 61, 63, 0, 0, [], [])), (61, (.iconst 1, 62, 0, 1, 0, [], [])), (62, (.ireturn, 63, 0, 0, 0, [], [])), (63, (.iinc 2 1, 66, 0, 1, 0, [], []))],
  [(66, (.goto (-51), 69, 15, 0, 0, [], [])), (69, (.iconst 0, 70, 0, 0, 0, [], [])), (70, (.ireturn, 71, 0, 0, 0, [], []))]]
noncomputable abbrev zT_206 : zT := (12, zI_206, 3, 3) -- X12_canSeat
noncomputable def zI_207 : List (List (Nat × zE)) := [[(0, (.aload_n 0, 1, 0, 0, 0, [], [])), (1, (.iconst 0, 2, 0, 0, 0, [], [])), (2, (.putfield 191, 5, 0, 0, 0, [], [])), (5, (.iconst 0, 6, 0, 0, 0, [], [])), (6, (.istore_n 2, 7, 0, 0, 0, [], [])), (7, (.iload_n 2, 8, 0, 0, 0, [], [true, true, true, false])), (8, (.aload_n 0, 9, 0, 0, 0, [], [])), (9, (.getfield 7, 12, 0, 0, 0, [], [])), (12, (.iconst 2, 13, 0, 2, 0, [], [])), (13, (.iaload, 14, 3, 0, 0, [], [])), (14, (.if_icmp .ge 51, 17, 65, 0, 0, [], [])), (17, (.iload_n 1, 18, 0, 0, 0, [], [])), (18, (.iload_n 2, 19, 0, 0, 0, [], [])), (19, (.invokestatic 198, 22, 0, 0, 0, [], [])), (22, (.ifCond .eq 37, 25, 59, 0, 0, [], [])), (25, (.aload_n 0, 26, 0, 0, 0, [], [])), (26, (.getfield 31, 29, 0, 0, 0, [], [])), (29, (.aload_n 0, 30, 0, 0, 0, [], [])), (30, (.getfield 191, 33, 0, 0, 0, [], []))],
  [(33, (.iload_n 2, 34, 0, 0, 0, [], [])), (34, (.iastore, 35, 0, 0, 0, [], [])), (35, (.aload_n 0, 36, 0, 0, 0, [], [])), (36, (.getfield 34, 39, 0, 0, 0, [], [])), (39, (.aload_n 0, 40, 0, 0, 0, [], [])), (40, (.getfield 191, 43, 0, 0, 0, [], [])), (43, (.aload_n 0, 44, 0, 0, 0, [], [])), (44, (.iload_n 2, 45, 0, 0, 0, [], [])), (45, (.invokevirtual 115, 48, 0, 0, 0, [], [])), (48, (.iastore, 49, 0, 0, 0, [], [])), (49, (.aload_n 0, 50, 0, 0, 0, [], [])), (50, (.dup, 51, 0, 0, 0, [], [])), (51, (.getfield 191, 54, 0, 0, 0, [], [])), (54, (.iconst 1, 55, 0, 1, 0, [], [])), (55, (.iadd, 56, 0, 0, 0, [], [])), (56, (.putfield 191, 59, 0, 0, 0, [], [])), (59, (.iinc 2 1, 62, 0, 1, 0, [], [])), (62, (.goto (-55), 65, 7, 0, 0, [], []))],
  [(65, (.aload_n 0, 66, 0, 0, 0, [], [])), (66, (.invokevirtual 135, 69, 0, 0, 0, [], [])), (69, (.aload_n 0, 70, 0, 0, 0, [], [])), (70, (.iconst 0, 71, 0, 0, 0, [], [])), (71, (.invokevirtual 195, 74, 0, 0, 0, [], [])), (74, (.istore_n 2, 75, 0, 0, 0, [], [])), (75, (.iconst 0, 76, 0, 0, 0, [], [])), (76, (.istore_n 3, 77, 0, 0, 0, [], [])), (77, (.iload_n 3, 78, 0, 0, 0, [], [true, false, true, true])), (78, (.aload_n 0, 79, 0, 0, 0, [], [])), (79, (.getfield 191, 82, 0, 0, 0, [], [])), (82, (.if_icmp .ge 25, 85, 107, 0, 0, [], [])), (85, (.aload_n 0, 86, 0, 0, 0, [], [])), (86, (.aload_n 0, 87, 0, 0, 0, [], [])), (87, (.getfield 31, 90, 0, 0, 0, [], [])), (90, (.iload_n 3, 91, 0, 0, 0, [], [])), (91, (.iaload, 92, 0, 0, 0, [], [])), (92, (.aload_n 0, 93, 0, 0, 0, [], [])), (93, (.getfield 34, 96, 0, 0, 0, [], []))],
  [(96, (.iload_n 3, 97, 0, 0, 0, [], [])), (97, (.iaload, 98, 0, 0, 0, [], [])), (98, (.invokevirtual 156, 101, 0, 0, 0, [], [])), (101, (.iinc 3 1, 104, 0, 1, 0, [], [])), (104, (.goto (-27), 107, 77, 0, 0, [], [])), (107, (.iload_n 2, 108, 0, 0, 0, [], [])), (108, (.ireturn, 109, 0, 0, 0, [], []))]]
noncomputable abbrev zT_207 : zT := (12, zI_207, 3, 4) -- X12_findSeating
noncomputable def zI_208 : List (List (Nat × zE)) := [[(0, (.aload_n 0, 1, 0, 0, 0, [], [])), (1, (.iload_n 1, 2, 0, 0, 0, [], [])), (2, (.invokevirtual 201, 5, 0, 0, 0, [], [])), (5, (.ifCond .eq 15, 8, 20, 0, 0, [], [])), (8, (.iload_n 2, 9, 0, 0, 0, [], [])), (9, (.i2l, 10, 0, 0, 0, [], [])), (10, (.lconst 0, 11, 0, 0, 0, [], [])), (11, (.ldc2_w 204, 14, 0, 0, 3, [], [])), (14, (.invokestatic 67, 17, 0, 0, 0, [], [])), (17, (.ifCond .ne 5, 20, 22, 0, 0, [], [])), (20, (.iconst (-1), 21, 0, (-1), 0, [], [])), (21, (.ireturn, 22, 0, 0, 0, [], [])), (22, (.aload_n 0, 23, 0, 0, 0, [], [])), (23, (.iload_n 1, 24, 0, 0, 0, [], [])), (24, (.invokevirtual 206, 27, 0, 0, 0, [], [])), (27, (.ifCond .eq 20, 30, 47, 0, 0, [], [])), (30, (.iload_n 2, 31, 0, 0, 0, [], [])), (31, (.aload_n 0, 32, 0, 0, 0, [], []))],
  [(32, (.getfield 191, 35, 0, 0, 0, [], [])), (35, (.if_icmp .ge 12, 38, 47, 0, 0, [], [])), (38, (.aload_n 0, 39, 0, 0, 0, [], [])), (39, (.getfield 37, 42, 0, 0, 0, [], [])), (42, (.iload_n 2, 43, 0, 0, 0, [], [])), (43, (.iaload, 44, 0, 0, 0, [], [])), (44, (.goto 5, 47, 49, 0, 0, [], [])), (47, (.bipush (-3), 49, 0, (-3), 0, [], [])), (49, (.ireturn, 50, 0, 0, 0, [], []))]]
noncomputable abbrev zT_208 : zT := (12, zI_208, 1, 3) -- X12_seat
noncomputable def zI_209 : List (List (Nat × zE)) := [[(0, (.aload_n 0, 1, 0, 0, 0, [], [])), (1, (.iload_n 1, 2, 0, 0, 0, [], [])), (2, (.invokevirtual 201, 5, 0, 0, 0, [], [])), (5, (.ifCond .ne 5, 8, 10, 0, 0, [], [])), (8, (.iconst (-1), 9, 0, (-1), 0, [], [])), (9, (.ireturn, 10, 0, 0, 0, [], [])), (10, (.aload_n 0, 11, 0, 0, 0, [], [])), (11, (.iload_n 1, 12, 0, 0, 0, [], [])), (12, (.invokevirtual 206, 15, 0, 0, 0, [], [])), (15, (.ifCond .ne 6, 18, 21, 0, 0, [], [])), (18, (.bipush (-3), 20, 0, (-3), 0, [], [])), (20, (.ireturn, 21, 0, 0, 0, [], [])), (21, (.iconst 0, 22, 0, 0, 0, [], [])), (22, (.istore_n 2, 23, 0, 0, 0, [], [])), (23, (.iload_n 2, 24, 0, 0, 0, [], [true, false, true])), (24, (.aload_n 0, 25, 0, 0, 0, [], [])), (25, (.getfield 191, 28, 0, 0, 0, [], [])), (28, (.if_icmp .ge 25, 31, 53, 0, 0, [], [])), (31, (.aload_n 0, 32, 0, 0, 0, [], []))],
  [(32, (.aload_n 0, 33, 0, 0, 0, [], [])), (33, (.getfield 31, 36, 0, 0, 0, [], [])), (36, (.iload_n 2, 37, 0, 0, 0, [], [])), (37, (.iaload, 38, 0, 0, 0, [], [])), (38, (.aload_n 0, 39, 0, 0, 0, [], [])), (39, (.getfield 37, 42, 0, 0, 0, [], [])), (42, (.iload_n 2, 43, 0, 0, 0, [], [])), (43, (.iaload, 44, 0, 0, 0, [], [])), (44, (.invokevirtual 156, 47, 0, 0, 0, [], [])), (47, (.iinc 2 1, 50, 0, 1, 0, [], [])), (50, (.goto (-27), 53, 23, 0, 0, [], [])), (53, (.aload_n 0, 54, 0, 0, 0, [], [])), (54, (.getfield 191, 57, 0, 0, 0, [], [])), (57, (.ireturn, 58, 0, 0, 0, [], []))]]
noncomputable abbrev zT_209 : zT := (12, zI_209, 1, 3) -- X12_seatAll
noncomputable def zI_210 : List (List (Nat × zE)) := [[(0, (.iconst 0, 1, 0, 0, 0, [], [])), (1, (.istore_n 2, 2, 0, 0, 0, [], [])), (2, (.iload_n 2, 3, 0, 0, 0, [], [true, true, true])), (3, (.aload_n 0, 4, 0, 0, 0, [], [])), (4, (.getfield 7, 7, 0, 0, 0, [], [])), (7, (.iconst 2, 8, 0, 2, 0, [], [])), (8, (.iaload, 9, 3, 0, 0, [], [])), (9, (.if_icmp .ge 29, 12, 38, 0, 0, [], [])), (12, (.aload_n 0, 13, 0, 0, 0, [], [])), (13, (.iload_n 2, 14, 0, 0, 0, [], [])), (14, (.iconst 1, 15, 0, 1, 0, [], [])), (15, (.invokevirtual 118, 18, 0, 0, 0, [], [])), (18, (.iload_n 1, 19, 0, 0, 0, [], [])), (19, (.if_icmp .ne 13, 22, 32, 0, 0, [], [])), (22, (.aload_n 0, 23, 0, 0, 0, [], [])), (23, (.iload_n 2, 24, 0, 0, 0, [], [])), (24, (.invokevirtual 115, 27, 0, 0, 0, [], [])), (27, (.ifCond .ge 5, 30, 32, 0, 0, [], [])), (30, (.iload_n 2, 31, 0, 0, 0, [], [])), (31, (.ireturn, 32, 0, 0, 0, [], []))],
  [(32, (.iinc 2 1, 35, 0, 1, 0, [], [])), (35, (.goto (-33), 38, 2, 0, 0, [], [])), (38, (.iconst (-1), 39, 0, (-1), 0, [], [])), (39, (.ireturn, 40, 0, 0, 0, [], []))]]
noncomputable abbrev zT_210 : zT := (12, zI_210, 1, 3) -- X12_idler
noncomputable def zI_211 : List (List (Nat × zE)) := [[(0, (.iload_n 1, 1, 0, 0, 0, [], [])), (1, (.iconst 2, 2, 0, 2, 0, [], [])), (2, (.if_icmp .ne 7, 5, 9, 0, 0, [], [])), (5, (.iconst 1, 6, 0, 1, 0, [], [])), (6, (.goto 13, 9, 19, 0, 0, [], [])), (9, (.iload_n 1, 10, 0, 0, 0, [], [])), (10, (.iload_n 0, 11, 0, 0, 0, [], [])), (11, (.if_icmp .ne 7, 14, 18, 0, 0, [], [])), (14, (.iconst 2, 15, 0, 2, 0, [], [])), (15, (.goto 4, 18, 19, 0, 0, [], [])), (18, (.iconst 0, 19, 0, 0, 0, [], [])), (19, (.ireturn, 20, 0, 0, 0, [], []))]]
noncomputable abbrev zT_211 : zT := (12, zI_211, 1, 2) -- X12_worthOf
noncomputable def zI_212 : List (List (Nat × zE)) := [[(0, (.aload_n 0, 1, 0, 0, 0, [], [])), (1, (.iload_n 3, 2, 0, 0, 0, [], [])), (2, (.iload 4, 4, 0, 0, 0, [], [])), (4, (.invokevirtual 156, 7, 0, 0, 0, [], [])), (7, (.aload_n 0, 8, 0, 0, 0, [], [])), (8, (.invokevirtual 180, 11, 0, 0, 0, [], [])), (11, (.ifCond .eq 16, 14, 27, 0, 0, [], [])), (14, (.aload_n 0, 15, 0, 0, 0, [], [])), (15, (.iconst 1, 16, 0, 1, 0, [], [])), (16, (.iload_n 1, 17, 0, 0, 0, [], [])), (17, (.isub, 18, 0, 0, 0, [], [])), (18, (.iload_n 2, 19, 0, 0, 0, [], [])), (19, (.iconst 1, 20, 0, 1, 0, [], [])), (20, (.isub, 21, 0, 0, 0, [], [])), (21, (.invokevirtual 209, 24, 0, 0, 0, [], [])), (24, (.goto 6, 27, 30, 0, 0, [], [])), (27, (.iconst 1, 28, 0, 1, 0, [], [])), (28, (.iload_n 1, 29, 0, 0, 0, [], [])), (29, (.isub, 30, 0, 0, 0, [], [])), (30, (.istore 5, 32, 0, 0, 0, [], []))],
  [(32, (.aload_n 0, 33, 0, 0, 0, [], [])), (33, (.iload_n 3, 34, 0, 0, 0, [], [])), (34, (.iconst (-1), 35, 0, (-1), 0, [], [])), (35, (.invokevirtual 156, 38, 0, 0, 0, [], [])), (38, (.iload 5, 40, 0, 0, 0, [], [])), (40, (.ireturn, 41, 0, 0, 0, [], []))]]
noncomputable abbrev zT_212 : zT := (12, zI_212, 1, 6) -- X12_leadsTo
noncomputable def zI_213 : List (List (Nat × zE)) := [[(0, (.iload_n 2, 1, 0, 0, 0, [], [])), (1, (.ifCond .ne 7, 4, 8, 0, 0, [], [])), (4, (.iconst (-1), 5, 0, (-1), 0, [], [])), (5, (.goto 8, 8, 13, 0, 0, [], [])), (8, (.aload_n 0, 9, 0, 0, 0, [], [])), (9, (.iload_n 1, 10, 0, 0, 0, [], [])), (10, (.invokevirtual 212, 13, 0, 0, 0, [], [])), (13, (.istore_n 3, 14, 0, 0, 0, [], [])), (14, (.iconst (-1), 15, 0, (-1), 0, [], [])), (15, (.istore 4, 17, 0, 0, 0, [], [])), (17, (.iconst 0, 18, 0, 0, 0, [], [])), (18, (.istore 5, 20, 0, 0, 0, [], [])), (20, (.iload 5, 22, 0, 0, 0, [], [true, true, true, true, true, true, false])), (22, (.aload_n 0, 23, 0, 0, 0, [], [])), (23, (.getfield 7, 26, 0, 0, 0, [], [])), (26, (.iconst 0, 27, 0, 0, 0, [], [])), (27, (.iaload, 28, 1, 0, 0, [], [])), (28, (.if_icmp .ge 62, 31, 90, 0, 0, [], [])), (31, (.iload_n 3, 32, 0, 0, 0, [], []))],
  [(32, (.ifCond .lt 58, 35, 90, 0, 0, [], [])), (35, (.aload_n 0, 36, 0, 0, 0, [], [])), (36, (.iload 5, 38, 0, 0, 0, [], [])), (38, (.invokevirtual 92, 41, 0, 0, 0, [], [])), (41, (.ifCond .ne 43, 44, 84, 0, 0, [], [])), (44, (.aload_n 0, 45, 0, 0, 0, [], [])), (45, (.iload_n 1, 46, 0, 0, 0, [], [])), (46, (.iload_n 2, 47, 0, 0, 0, [], [])), (47, (.iload_n 3, 48, 0, 0, 0, [], [])), (48, (.iload 5, 50, 0, 0, 0, [], [])), (50, (.invokevirtual 215, 53, 0, 0, 0, [], [])), (53, (.istore 6, 55, 0, 0, 0, [], [])), (55, (.iload 4, 57, 0, 0, 0, [], [])), (57, (.ifCond .lt 18, 60, 75, 0, 0, [], [])), (60, (.iload_n 1, 61, 0, 0, 0, [], [])), (61, (.iload 6, 63, 0, 0, 0, [], [])), (63, (.invokestatic 219, 66, 0, 0, 0, [], []))],
  [(66, (.iload_n 1, 67, 0, 0, 0, [], [])), (67, (.iload 4, 69, 0, 0, 0, [], [])), (69, (.invokestatic 219, 72, 0, 0, 0, [], [])), (72, (.if_icmp .le 8, 75, 80, 0, 0, [], [])), (75, (.iload 6, 77, 0, 0, 0, [], [])), (77, (.goto 5, 80, 82, 0, 0, [], [])), (80, (.iload 4, 82, 0, 0, 0, [], [])), (82, (.istore 4, 84, 0, 0, 0, [], [])), (84, (.iinc 5 1, 87, 0, 1, 0, [], [])), (87, (.goto (-67), 90, 20, 0, 0, [], [])), (90, (.iload 4, 92, 0, 0, 0, [], [])), (92, (.ifCond .ge 7, 95, 99, 0, 0, [], [])), (95, (.iconst 2, 96, 0, 2, 0, [], []))],
  [(96, (.goto 5, 99, 101, 0, 0, [], [])), (99, (.iload 4, 101, 0, 0, 0, [], [])), (101, (.ireturn, 102, 0, 0, 0, [], []))]]
noncomputable abbrev zT_213 : zT := (12, zI_213, 1, 7) -- X12_valueOf
noncomputable def zI_214 : List (List (Nat × zE)) := [[(0, (.iload_n 0, 1, 0, 0, 0, [], [])), (1, (.i2l, 2, 0, 0, 0, [], [])), (2, (.lconst 0, 3, 0, 0, 0, [], [])), (3, (.lconst 1, 4, 0, 0, 1, [], [])), (4, (.invokestatic 67, 7, 0, 0, 0, [], [])), (7, (.ifCond .eq 19, 10, 26, 0, 0, [], [])), (10, (.iload_n 1, 11, 0, 0, 0, [], [])), (11, (.i2l, 12, 0, 0, 0, [], [])), (12, (.lconst 1, 13, 0, 0, 1, [], [])), (13, (.ldc2_w 222, 16, 0, 0, 4, [], [])), (16, (.invokestatic 67, 19, 0, 0, 0, [], [])), (19, (.ifCond .eq 7, 22, 26, 0, 0, [], [])), (22, (.iconst 1, 23, 0, 1, 0, [], [])), (23, (.goto 4, 26, 27, 0, 0, [], [])), (26, (.iconst 0, 27, 0, 0, 0, [], [])), (27, (.ireturn, 28, 0, 0, 0, [], []))]]
noncomputable abbrev zT_214 : zT := (12, zI_214, 3, 2) -- X12_isGame
noncomputable def zI_215 : List (List (Nat × zE)) := [[(0, (.iload_n 1, 1, 0, 0, 0, [], [])), (1, (.iload_n 2, 2, 0, 0, 0, [], [])), (2, (.invokestatic 224, 5, 0, 0, 0, [], [])), (5, (.ifCond .ne 5, 8, 10, 0, 0, [], [])), (8, (.iconst (-1), 9, 0, (-1), 0, [], [])), (9, (.ireturn, 10, 0, 0, 0, [], [])), (10, (.aload_n 0, 11, 0, 0, 0, [], [])), (11, (.invokevirtual 135, 14, 0, 0, 0, [], [])), (14, (.aload_n 0, 15, 0, 0, 0, [], [])), (15, (.iload_n 1, 16, 0, 0, 0, [], [])), (16, (.iload_n 2, 17, 0, 0, 0, [], [])), (17, (.invokevirtual 209, 20, 0, 0, 0, [], [])), (20, (.ireturn, 21, 0, 0, 0, [], []))]]
noncomputable abbrev zT_215 : zT := (12, zI_215, 1, 3) -- X12_game
noncomputable def zI_216 : List (List (Nat × zE)) := [[(0, (.iload_n 1, 1, 0, 0, 0, [], [])), (1, (.iload_n 2, 2, 0, 0, 0, [], [])), (2, (.invokestatic 224, 5, 0, 0, 0, [], [])), (5, (.ifCond .ne 5, 8, 10, 0, 0, [], [])), (8, (.iconst (-1), 9, 0, (-1), 0, [], [])), (9, (.ireturn, 10, 0, 0, 0, [], [])), (10, (.aload_n 0, 11, 0, 0, 0, [], [])), (11, (.invokevirtual 135, 14, 0, 0, 0, [], [])), (14, (.aload_n 0, 15, 0, 0, 0, [], [])), (15, (.iload_n 1, 16, 0, 0, 0, [], [])), (16, (.iload_n 2, 17, 0, 0, 0, [], [])), (17, (.invokevirtual 209, 20, 0, 0, 0, [], [])), (20, (.istore_n 3, 21, 0, 0, 0, [], [])), (21, (.aload_n 0, 22, 0, 0, 0, [], [])), (22, (.iload_n 1, 23, 0, 0, 0, [], [])), (23, (.invokevirtual 212, 26, 0, 0, 0, [], [])), (26, (.istore 4, 28, 0, 0, 0, [], [])), (28, (.iconst 0, 29, 0, 0, 0, [], [])), (29, (.istore 5, 31, 0, 0, 0, [], [])), (31, (.iload 5, 33, 0, 0, 0, [], [true, true, true, true, true, true]))],
  [(33, (.aload_n 0, 34, 0, 0, 0, [], [])), (34, (.getfield 7, 37, 0, 0, 0, [], [])), (37, (.iconst 0, 38, 0, 0, 0, [], [])), (38, (.iaload, 39, 1, 0, 0, [], [])), (39, (.if_icmp .ge 40, 42, 79, 0, 0, [], [])), (42, (.iload 4, 44, 0, 0, 0, [], [])), (44, (.ifCond .lt 35, 47, 79, 0, 0, [], [])), (47, (.aload_n 0, 48, 0, 0, 0, [], [])), (48, (.iload 5, 50, 0, 0, 0, [], [])), (50, (.invokevirtual 92, 53, 0, 0, 0, [], [])), (53, (.ifCond .ne 20, 56, 73, 0, 0, [], [])), (56, (.aload_n 0, 57, 0, 0, 0, [], [])), (57, (.iload_n 1, 58, 0, 0, 0, [], [])), (58, (.iload_n 2, 59, 0, 0, 0, [], [])), (59, (.iload 4, 61, 0, 0, 0, [], [])), (61, (.iload 5, 63, 0, 0, 0, [], [])), (63, (.invokevirtual 215, 66, 0, 0, 0, [], []))],
  [(66, (.iload_n 3, 67, 0, 0, 0, [], [])), (67, (.if_icmp .ne 6, 70, 73, 0, 0, [], [])), (70, (.iload 5, 72, 0, 0, 0, [], [])), (72, (.ireturn, 73, 0, 0, 0, [], [])), (73, (.iinc 5 1, 76, 0, 1, 0, [], [])), (76, (.goto (-45), 79, 31, 0, 0, [], [])), (79, (.bipush (-3), 81, 0, (-3), 0, [], [])), (81, (.ireturn, 82, 0, 0, 0, [], []))]]
noncomputable abbrev zT_216 : zT := (12, zI_216, 1, 6) -- X12_move
noncomputable def zI_217 : List (List (Nat × zE)) := [[(0, (.aload_n 0, 1, 0, 0, 0, [], [])), (1, (.iload_n 1, 2, 0, 0, 0, [], [])), (2, (.invokevirtual 84, 5, 0, 0, 0, [], [])), (5, (.ifCond .eq 13, 8, 18, 0, 0, [], [])), (8, (.iload_n 2, 9, 0, 0, 0, [], [])), (9, (.i2l, 10, 0, 0, 0, [], [])), (10, (.lconst 0, 11, 0, 0, 0, [], [])), (11, (.lconst 1, 12, 0, 0, 1, [], [])), (12, (.invokestatic 67, 15, 0, 0, 0, [], [])), (15, (.ifCond .ne 5, 18, 20, 0, 0, [], [])), (18, (.iconst (-1), 19, 0, (-1), 0, [], [])), (19, (.ireturn, 20, 0, 0, 0, [], [])), (20, (.aload_n 0, 21, 0, 0, 0, [], [])), (21, (.getfield 7, 24, 0, 0, 0, [], [])), (24, (.iconst 3, 25, 0, 3, 0, [], [])), (25, (.iaload, 26, 4, 0, 0, [], [])), (26, (.bipush 6, 28, 0, 6, 0, [], [])), (28, (.if_icmp .ne 6, 31, 34, 0, 0, [], [])), (31, (.bipush (-2), 33, 0, (-2), 0, [], []))],
  [(33, (.ireturn, 34, 0, 0, 0, [], [])), (34, (.aload_n 0, 35, 0, 0, 0, [], [])), (35, (.getfield 7, 38, 0, 0, 0, [], [])), (38, (.bipush 76, 40, 0, 76, 0, [], [])), (40, (.iconst 2, 41, 0, 2, 0, [], [])), (41, (.aload_n 0, 42, 0, 0, 0, [], [])), (42, (.getfield 7, 45, 0, 0, 0, [], [])), (45, (.iconst 3, 46, 0, 3, 0, [], [])), (46, (.iaload, 47, 4, 0, 0, [], [])), (47, (.imul, 48, 0, 0, 0, [], [])), (48, (.iadd, 49, 0, 0, 0, [], [])), (49, (.iload_n 1, 50, 0, 0, 0, [], [])), (50, (.iastore, 51, 0, 0, 0, [], [])), (51, (.aload_n 0, 52, 0, 0, 0, [], [])), (52, (.getfield 7, 55, 0, 0, 0, [], [])), (55, (.bipush 76, 57, 0, 76, 0, [], [])), (57, (.iconst 2, 58, 0, 2, 0, [], [])), (58, (.aload_n 0, 59, 0, 0, 0, [], [])), (59, (.getfield 7, 62, 0, 0, 0, [], [])), (62, (.iconst 3, 63, 0, 3, 0, [], [])), (63, (.iaload, 64, 4, 0, 0, [], []))],
  [(64, (.imul, 65, 0, 0, 0, [], [])), (65, (.iadd, 66, 0, 0, 0, [], [])), (66, (.iconst 1, 67, 0, 1, 0, [], [])), (67, (.iadd, 68, 0, 0, 0, [], [])), (68, (.iload_n 2, 69, 0, 0, 0, [], [])), (69, (.iastore, 70, 0, 0, 0, [], [])), (70, (.aload_n 0, 71, 0, 0, 0, [], [])), (71, (.getfield 7, 74, 0, 0, 0, [], [])), (74, (.iconst 3, 75, 0, 3, 0, [], [])), (75, (.dup2, 76, 0, 0, 0, [], [])), (76, (.iaload, 77, 4, 0, 0, [], [])), (77, (.iconst 1, 78, 0, 1, 0, [], [])), (78, (.iadd, 79, 0, 0, 0, [], [])), (79, (.iastore, 80, 4, 0, 0, [], [])), (80, (.aload_n 0, 81, 0, 0, 0, [], [])), (81, (.getfield 7, 84, 0, 0, 0, [], [])), (84, (.iconst 3, 85, 0, 3, 0, [], [])), (85, (.iaload, 86, 4, 0, 0, [], [])), (86, (.iconst 1, 87, 0, 1, 0, [], [])), (87, (.isub, 88, 0, 0, 0, [], [])), (88, (.ireturn, 89, 0, 0, 0, [], []))]]
noncomputable abbrev zT_217 : zT := (12, zI_217, 1, 3) -- X12_report
noncomputable def zI_218 : List (List (Nat × zE)) := [[(0, (.aload_n 0, 1, 0, 0, 0, [], [])), (1, (.getfield 7, 4, 0, 0, 0, [], [])), (4, (.iconst 3, 5, 0, 3, 0, [], [])), (5, (.iaload, 6, 4, 0, 0, [], [])), (6, (.istore_n 1, 7, 0, 0, 0, [], [])), (7, (.aload_n 0, 8, 0, 0, 0, [], [])), (8, (.getfield 7, 11, 0, 0, 0, [], [])), (11, (.iconst 3, 12, 0, 3, 0, [], [])), (12, (.iconst 0, 13, 0, 0, 0, [], [])), (13, (.iastore, 14, 4, 0, 0, [], [])), (14, (.iload_n 1, 15, 0, 0, 0, [], [])), (15, (.ireturn, 16, 0, 0, 0, [], []))]]
noncomputable abbrev zT_218 : zT := (12, zI_218, 1, 2) -- X12_forget
noncomputable def zI_219 : List (List (Nat × zE)) := [[(0, (.aload_n 0, 1, 0, 0, 0, [], [])), (1, (.invokevirtual 125, 4, 0, 0, 0, [], [])), (4, (.aload_n 0, 5, 0, 0, 0, [], [])), (5, (.iload_n 1, 6, 0, 0, 0, [], [])), (6, (.iload_n 2, 7, 0, 0, 0, [], [])), (7, (.invokevirtual 121, 10, 0, 0, 0, [], [])), (10, (.iconst 0, 11, 0, 0, 0, [], [])), (11, (.istore_n 3, 12, 0, 0, 0, [], [])), (12, (.iconst 0, 13, 0, 0, 0, [], [])), (13, (.istore 4, 15, 0, 0, 0, [], [])), (15, (.iload 4, 17, 0, 0, 0, [], [true, false, false, true, true])), (17, (.aload_n 0, 18, 0, 0, 0, [], [])), (18, (.getfield 7, 21, 0, 0, 0, [], [])), (21, (.iconst 0, 22, 0, 0, 0, [], [])), (22, (.iaload, 23, 1, 0, 0, [], [])), (23, (.if_icmp .ge 28, 26, 51, 0, 0, [], [])), (26, (.iload_n 3, 27, 0, 0, 0, [], [])), (27, (.ifCond .ne 12, 30, 39, 0, 0, [], [])), (30, (.aload_n 0, 31, 0, 0, 0, [], [])), (31, (.iload 4, 33, 0, 0, 0, [], []))],
  [(33, (.invokevirtual 128, 36, 0, 0, 0, [], [])), (36, (.ifCond .eq 7, 39, 43, 0, 0, [], [])), (39, (.iconst 1, 40, 0, 1, 0, [], [])), (40, (.goto 4, 43, 44, 0, 0, [], [])), (43, (.iconst 0, 44, 0, 0, 0, [], [])), (44, (.istore_n 3, 45, 0, 0, 0, [], [])), (45, (.iinc 4 1, 48, 0, 1, 0, [], [])), (48, (.goto (-33), 51, 15, 0, 0, [], [])), (51, (.iload_n 3, 52, 0, 0, 0, [], [])), (52, (.ireturn, 53, 0, 0, 0, [], []))]]
noncomputable abbrev zT_219 : zT := (12, zI_219, 3, 5) -- X12_isCracked
noncomputable def zI_220 : List (List (Nat × zE)) := [[(0, (.aload_n 0, 1, 0, 0, 0, [], [])), (1, (.invokevirtual 135, 4, 0, 0, 0, [], [])), (4, (.aload_n 0, 5, 0, 0, 0, [], [])), (5, (.iconst 0, 6, 0, 0, 0, [], [])), (6, (.putfield 227, 9, 0, 0, 0, [], [])), (9, (.iconst 1, 10, 0, 1, 0, [], [])), (10, (.istore_n 2, 11, 0, 0, 0, [], [])), (11, (.iload_n 2, 12, 0, 0, 0, [], [true, true, true, false, false, false])), (12, (.sipush 201, 15, 0, 201, 0, [], [])), (15, (.if_icmp .ge 141, 18, 156, 0, 0, [], [])), (18, (.iconst 1, 19, 0, 1, 0, [], [])), (19, (.istore_n 3, 20, 0, 0, 0, [], [])), (20, (.iconst 0, 21, 0, 0, 0, [], [])), (21, (.istore 4, 23, 0, 0, 0, [], [])), (23, (.iload 4, 25, 0, 0, 0, [], [true, true, true, true, true, false])), (25, (.aload_n 0, 26, 0, 0, 0, [], [])), (26, (.getfield 7, 29, 0, 0, 0, [], [])), (29, (.iconst 3, 30, 0, 3, 0, [], [])), (30, (.iaload, 31, 4, 0, 0, [], [])), (31, (.if_icmp .ge 81, 34, 112, 0, 0, [], []))],
  [(34, (.iload_n 3, 35, 0, 0, 0, [], [])), (35, (.ifCond .eq 77, 38, 112, 0, 0, [], [])), (38, (.aload_n 0, 39, 0, 0, 0, [], [])), (39, (.getfield 7, 42, 0, 0, 0, [], [])), (42, (.bipush 76, 44, 0, 76, 0, [], [])), (44, (.iconst 2, 45, 0, 2, 0, [], [])), (45, (.iload 4, 47, 0, 0, 0, [], [])), (47, (.imul, 48, 0, 0, 0, [], [])), (48, (.iadd, 49, 0, 0, 0, [], [])), (49, (.iaload, 50, 0, 0, 0, [], [])), (50, (.istore 5, 52, 0, 0, 0, [], [])), (52, (.iload 4, 54, 0, 0, 0, [], [])), (54, (.iload_n 1, 55, 0, 0, 0, [], [])), (55, (.if_icmp .eq 45, 58, 100, 0, 0, [], [])), (58, (.aload_n 0, 59, 0, 0, 0, [], [])), (59, (.iload 5, 61, 0, 0, 0, [], [])), (61, (.invokevirtual 92, 64, 0, 0, 0, [], []))],
  [(64, (.ifCond .ne 40, 67, 104, 0, 0, [], [])), (67, (.aload_n 0, 68, 0, 0, 0, [], [])), (68, (.iload 5, 70, 0, 0, 0, [], [])), (70, (.iload_n 2, 71, 0, 0, 0, [], [])), (71, (.invokevirtual 230, 74, 0, 0, 0, [], [])), (74, (.aload_n 0, 75, 0, 0, 0, [], [])), (75, (.getfield 7, 78, 0, 0, 0, [], [])), (78, (.bipush 76, 80, 0, 76, 0, [], [])), (80, (.iconst 2, 81, 0, 2, 0, [], [])), (81, (.iload 4, 83, 0, 0, 0, [], [])), (83, (.imul, 84, 0, 0, 0, [], [])), (84, (.iadd, 85, 0, 0, 0, [], [])), (85, (.iconst 1, 86, 0, 1, 0, [], [])), (86, (.iadd, 87, 0, 0, 0, [], [])), (87, (.iaload, 88, 0, 0, 0, [], [])), (88, (.iconst 1, 89, 0, 1, 0, [], [])), (89, (.if_icmp .ne 7, 92, 96, 0, 0, [], [])), (92, (.iconst 1, 93, 0, 1, 0, [], [])), (93, (.goto 4, 96, 97, 0, 0, [], []))],
  [(96, (.iconst 0, 97, 0, 0, 0, [], [])), (97, (.if_icmp .ne 7, 100, 104, 0, 0, [], [])), (100, (.iconst 1, 101, 0, 1, 0, [], [])), (101, (.goto 4, 104, 105, 0, 0, [], [])), (104, (.iconst 0, 105, 0, 0, 0, [], [])), (105, (.istore_n 3, 106, 0, 0, 0, [], [])), (106, (.iinc 4 1, 109, 0, 1, 0, [], [])), (109, (.goto (-86), 112, 23, 0, 0, [], [])), (112, (.iload_n 3, 113, 0, 0, 0, [], [true, true, true, true, false, false])), (113, (.ifCond .eq 37, 116, 150, 0, 0, [], [])), (116, (.aload_n 0, 117, 0, 0, 0, [], [])), (117, (.aload_n 0, 118, 0, 0, 0, [], [])), (118, (.getfield 227, 121, 0, 0, 0, [], [])), (121, (.ifCond .ne 7, 124, 128, 0, 0, [], [])), (124, (.iload_n 2, 125, 0, 0, 0, [], [])), (125, (.goto 7, 128, 132, 0, 0, [], []))],
  [(128, (.aload_n 0, 129, 0, 0, 0, [], [])), (129, (.getfield 233, 132, 0, 0, 0, [], [])), (132, (.putfield 233, 135, 0, 0, 0, [], [])), (135, (.aload_n 0, 136, 0, 0, 0, [], [])), (136, (.iload_n 2, 137, 0, 0, 0, [], [])), (137, (.putfield 236, 140, 0, 0, 0, [], [])), (140, (.aload_n 0, 141, 0, 0, 0, [], [])), (141, (.dup, 142, 0, 0, 0, [], [])), (142, (.getfield 227, 145, 0, 0, 0, [], [])), (145, (.iconst 1, 146, 0, 1, 0, [], [])), (146, (.iadd, 147, 0, 0, 0, [], [])), (147, (.putfield 227, 150, 0, 0, 0, [], [])), (150, (.iinc 2 1, 153, 0, 1, 0, [], [])), (153, (.goto (-142), 156, 11, 0, 0, [], [])), (156, (.return_, 157, 0, 0, 0, [], []))]]
noncomputable abbrev zT_220 : zT := (12, zI_220, 0, 6) -- X12_findFits
noncomputable def zI_221 : List (List (Nat × zE)) := [[(0, (.iload_n 1, 1, 0, 0, 0, [], [])), (1, (.i2l, 2, 0, 0, 0, [], [])), (2, (.lconst 0, 3, 0, 0, 0, [], [])), (3, (.ldc2_w 151, 6, 0, 0, 2, [], [])), (6, (.invokestatic 67, 9, 0, 0, 0, [], [])), (9, (.ifCond .ne 5, 12, 14, 0, 0, [], [])), (12, (.iconst (-1), 13, 0, (-1), 0, [], [])), (13, (.ireturn, 14, 0, 0, 0, [], [])), (14, (.aload_n 0, 15, 0, 0, 0, [], [])), (15, (.iconst (-1), 16, 0, (-1), 0, [], [])), (16, (.invokevirtual 239, 19, 0, 0, 0, [], [])), (19, (.iload_n 1, 20, 0, 0, 0, [], [])), (20, (.ifCond .ne 10, 23, 30, 0, 0, [], [])), (23, (.aload_n 0, 24, 0, 0, 0, [], [])), (24, (.getfield 227, 27, 0, 0, 0, [], [])), (27, (.goto 31, 30, 58, 0, 0, [], [])), (30, (.aload_n 0, 31, 0, 0, 0, [], [])), (31, (.getfield 227, 34, 0, 0, 0, [], []))],
  [(34, (.ifCond .ne 8, 37, 42, 0, 0, [], [])), (37, (.bipush (-3), 39, 0, (-3), 0, [], [])), (39, (.goto 19, 42, 58, 0, 0, [], [])), (42, (.iload_n 1, 43, 0, 0, 0, [], [])), (43, (.iconst 1, 44, 0, 1, 0, [], [])), (44, (.if_icmp .ne 10, 47, 54, 0, 0, [], [])), (47, (.aload_n 0, 48, 0, 0, 0, [], [])), (48, (.getfield 233, 51, 0, 0, 0, [], [])), (51, (.goto 7, 54, 58, 0, 0, [], [])), (54, (.aload_n 0, 55, 0, 0, 0, [], [])), (55, (.getfield 236, 58, 0, 0, 0, [], [])), (58, (.ireturn, 59, 0, 0, 0, [], []))]]
noncomputable abbrev zT_221 : zT := (12, zI_221, 1, 2) -- X12_span
noncomputable def zI_222 : List (List (Nat × zE)) := [[(0, (.aload_n 0, 1, 0, 0, 0, [], [])), (1, (.iconst (-1), 2, 0, (-1), 0, [], [])), (2, (.invokevirtual 239, 5, 0, 0, 0, [], [])), (5, (.aload_n 0, 6, 0, 0, 0, [], [])), (6, (.getfield 227, 9, 0, 0, 0, [], [])), (9, (.ifCond .ne 7, 12, 16, 0, 0, [], [])), (12, (.iconst 1, 13, 0, 1, 0, [], [])), (13, (.goto 4, 16, 17, 0, 0, [], [])), (16, (.iconst 0, 17, 0, 0, 0, [], [])), (17, (.istore_n 1, 18, 0, 0, 0, [], [])), (18, (.iconst 0, 19, 0, 0, 0, [], [])), (19, (.istore_n 2, 20, 0, 0, 0, [], [])), (20, (.iload_n 2, 21, 0, 0, 0, [], [true, true, true])), (21, (.aload_n 0, 22, 0, 0, 0, [], [])), (22, (.getfield 7, 25, 0, 0, 0, [], [])), (25, (.iconst 3, 26, 0, 3, 0, [], [])), (26, (.iaload, 27, 4, 0, 0, [], [])), (27, (.if_icmp .ge 27, 30, 54, 0, 0, [], [])), (30, (.iload_n 1, 31, 0, 0, 0, [], [])), (31, (.ifCond .eq 23, 34, 54, 0, 0, [], []))],
  [(34, (.aload_n 0, 35, 0, 0, 0, [], [])), (35, (.iload_n 2, 36, 0, 0, 0, [], [])), (36, (.invokevirtual 239, 39, 0, 0, 0, [], [])), (39, (.aload_n 0, 40, 0, 0, 0, [], [])), (40, (.getfield 227, 43, 0, 0, 0, [], [])), (43, (.ifCond .le 5, 46, 48, 0, 0, [], [])), (46, (.iload_n 2, 47, 0, 0, 0, [], [])), (47, (.ireturn, 48, 0, 0, 0, [], [])), (48, (.iinc 2 1, 51, 0, 1, 0, [], [])), (51, (.goto (-31), 54, 20, 0, 0, [], [])), (54, (.bipush (-3), 56, 0, (-3), 0, [], [])), (56, (.ireturn, 57, 0, 0, 0, [], []))]]
noncomputable abbrev zT_222 : zT := (12, zI_222, 1, 3) -- X12_liar
noncomputable def zI_223 : List (List (Nat × zE)) := [[(0, (.aload_n 0, 1, 0, 0, 0, [], [])), (1, (.getfield 7, 4, 0, 0, 0, [], [])), (4, (.bipush 6, 6, 0, 6, 0, [], [])), (6, (.iaload, 7, 7, 0, 0, [], [])), (7, (.istore_n 2, 8, 0, 0, 0, [], [])), (8, (.aload_n 0, 9, 0, 0, 0, [], [])), (9, (.getfield 7, 12, 0, 0, 0, [], [])), (12, (.bipush 6, 14, 0, 6, 0, [], [])), (14, (.iload_n 1, 15, 0, 0, 0, [], [])), (15, (.iastore, 16, 7, 0, 0, [], [])), (16, (.iload_n 2, 17, 0, 0, 0, [], [])), (17, (.ireturn, 18, 0, 0, 0, [], []))]]
noncomputable abbrev zT_223 : zT := (12, zI_223, 1, 3) -- X12_seed
noncomputable def zI_224 : List (List (Nat × zE)) := [[(0, (.aload_n 0, 1, 0, 0, 0, [], [])), (1, (.getfield 7, 4, 0, 0, 0, [], [])), (4, (.bipush 6, 6, 0, 6, 0, [], [])), (6, (.aload_n 0, 7, 0, 0, 0, [], [])), (7, (.getfield 7, 10, 0, 0, 0, [], [])), (10, (.bipush 6, 12, 0, 6, 0, [], [])), (12, (.iaload, 13, 7, 0, 0, [], [])), (13, (.ldc 243, 15, 0, 1103515245, 0, [], [])), (15, (.imul, 16, 0, 0, 0, [], [])), (16, (.sipush 12345, 19, 0, 12345, 0, [], [])), (19, (.iadd, 20, 0, 0, 0, [], [])), (20, (.iastore, 21, 0, 0, 0, [], [])), (21, (.aload_n 0, 22, 0, 0, 0, [], [])), (22, (.getfield 7, 25, 0, 0, 0, [], [])), (25, (.iconst 5, 26, 0, 5, 0, [], [])), (26, (.aload_n 0, 27, 0, 0, 0, [], [])), (27, (.getfield 7, 30, 0, 0, 0, [], [])), (30, (.bipush 6, 32, 0, 6, 0, [], []))],
  [(32, (.iaload, 33, 7, 0, 0, [], [])), (33, (.bipush 16, 35, 0, 16, 0, [], [])), (35, (.iushr, 36, 0, 0, 0, [], [])), (36, (.bipush 10, 38, 0, 10, 0, [], [])), (38, (.irem, 39, 0, 0, 0, [], [])), (39, (.iastore, 40, 6, 0, 0, [], [])), (40, (.aload_n 0, 41, 0, 0, 0, [], [])), (41, (.getfield 7, 44, 0, 0, 0, [], [])), (44, (.iconst 5, 45, 0, 5, 0, [], [])), (45, (.iaload, 46, 6, 0, 0, [], [])), (46, (.ireturn, 47, 0, 0, 0, [], []))]]
noncomputable abbrev zT_224 : zT := (12, zI_224, 1, 1) -- X12_draw
noncomputable def zI_225 : List (List (Nat × zE)) := [[(0, (.iload_n 1, 1, 0, 0, 0, [], [])), (1, (.i2l, 2, 0, 0, 0, [], [])), (2, (.lconst 1, 3, 0, 0, 1, [], [])), (3, (.ldc2_w 244, 6, 0, 0, 60, [], [])), (6, (.invokestatic 67, 9, 0, 0, 0, [], [])), (9, (.ifCond .ne 5, 12, 14, 0, 0, [], [])), (12, (.iconst (-1), 13, 0, (-1), 0, [], [])), (13, (.ireturn, 14, 0, 0, 0, [], [])), (14, (.aload_n 0, 15, 0, 0, 0, [], [])), (15, (.getfield 7, 18, 0, 0, 0, [], [])), (18, (.bipush 6, 20, 0, 6, 0, [], [])), (20, (.iaload, 21, 7, 0, 0, [], [])), (21, (.istore_n 2, 22, 0, 0, 0, [], [])), (22, (.aload_n 0, 23, 0, 0, 0, [], [])), (23, (.getfield 7, 26, 0, 0, 0, [], [])), (26, (.iconst 5, 27, 0, 5, 0, [], [])), (27, (.iaload, 28, 6, 0, 0, [], [])), (28, (.istore_n 3, 29, 0, 0, 0, [], [])), (29, (.iconst 0, 30, 0, 0, 0, [], [])), (30, (.istore 4, 32, 0, 0, 0, [], []))],
  [(32, (.iconst 0, 33, 0, 0, 0, [], [])), (33, (.istore 5, 35, 0, 0, 0, [], [])), (35, (.iload 5, 37, 0, 0, 0, [], [true, true, true, true, true, true])), (37, (.iload_n 1, 38, 0, 0, 0, [], [])), (38, (.if_icmp .ge 40, 41, 78, 0, 0, [], [])), (41, (.aload_n 0, 42, 0, 0, 0, [], [])), (42, (.getfield 7, 45, 0, 0, 0, [], [])), (45, (.iconst 5, 46, 0, 5, 0, [], [])), (46, (.aload_n 0, 47, 0, 0, 0, [], [])), (47, (.invokevirtual 246, 50, 0, 0, 0, [], [])), (50, (.iastore, 51, 6, 0, 0, [], [])), (51, (.aload_n 0, 52, 0, 0, 0, [], [])), (52, (.invokevirtual 135, 55, 0, 0, 0, [], [])), (55, (.iload 4, 57, 0, 0, 0, [], [])), (57, (.aload_n 0, 58, 0, 0, 0, [], [])), (58, (.invokevirtual 180, 61, 0, 0, 0, [], [])), (61, (.ifCond .eq 7, 64, 68, 0, 0, [], []))],
  [(64, (.iconst 0, 65, 0, 0, 0, [], [])), (65, (.goto 4, 68, 69, 0, 0, [], [])), (68, (.iconst 1, 69, 0, 1, 0, [], [])), (69, (.iadd, 70, 0, 0, 0, [], [])), (70, (.istore 4, 72, 0, 0, 0, [], [])), (72, (.iinc 5 1, 75, 0, 1, 0, [], [])), (75, (.goto (-40), 78, 35, 0, 0, [], [])), (78, (.aload_n 0, 79, 0, 0, 0, [], [])), (79, (.getfield 7, 82, 0, 0, 0, [], [])), (82, (.bipush 6, 84, 0, 6, 0, [], [])), (84, (.iload_n 2, 85, 0, 0, 0, [], [])), (85, (.iastore, 86, 7, 0, 0, [], [])), (86, (.aload_n 0, 87, 0, 0, 0, [], [])), (87, (.getfield 7, 90, 0, 0, 0, [], [])), (90, (.iconst 5, 91, 0, 5, 0, [], [])), (91, (.iload_n 3, 92, 0, 0, 0, [], [])), (92, (.iastore, 93, 6, 0, 0, [], [])), (93, (.iload 4, 95, 0, 0, 0, [], [])), (95, (.ireturn, 96, 0, 0, 0, [], []))]]
noncomputable abbrev zT_225 : zT := (12, zI_225, 1, 6) -- X12_often
noncomputable def zI_226 : List (List (Nat × zE)) := [[(0, (.aload_n 0, 1, 0, 0, 0, [], [])), (1, (.iload_n 1, 2, 0, 0, 0, [], [])), (2, (.invokevirtual 84, 5, 0, 0, 0, [], [])), (5, (.ifCond .ne 5, 8, 10, 0, 0, [], [])), (8, (.iconst (-1), 9, 0, (-1), 0, [], [])), (9, (.ireturn, 10, 0, 0, 0, [], [])), (10, (.aload_n 0, 11, 0, 0, 0, [], [])), (11, (.invokevirtual 140, 14, 0, 0, 0, [], [])), (14, (.aload_n 0, 15, 0, 0, 0, [], [])), (15, (.iconst 0, 16, 0, 0, 0, [], [])), (16, (.putfield 249, 19, 0, 0, 0, [], [])), (19, (.iload_n 1, 20, 0, 0, 0, [], [])), (20, (.istore_n 2, 21, 0, 0, 0, [], [])), (21, (.iload_n 2, 22, 0, 0, 0, [], [true, false, true])), (22, (.ifCond .lt 72, 25, 94, 0, 0, [], [])), (25, (.aload_n 0, 26, 0, 0, 0, [], [])), (26, (.getfield 40, 29, 0, 0, 0, [], [])), (29, (.iconst 3, 30, 0, 3, 0, [], [])), (30, (.aload_n 0, 31, 0, 0, 0, [], [])), (31, (.getfield 249, 34, 0, 0, 0, [], []))],
  [(34, (.imul, 35, 0, 0, 0, [], [])), (35, (.iload_n 2, 36, 0, 0, 0, [], [])), (36, (.iastore, 37, 0, 0, 0, [], [])), (37, (.aload_n 0, 38, 0, 0, 0, [], [])), (38, (.getfield 40, 41, 0, 0, 0, [], [])), (41, (.iconst 3, 42, 0, 3, 0, [], [])), (42, (.aload_n 0, 43, 0, 0, 0, [], [])), (43, (.getfield 249, 46, 0, 0, 0, [], [])), (46, (.imul, 47, 0, 0, 0, [], [])), (47, (.iconst 1, 48, 0, 1, 0, [], [])), (48, (.iadd, 49, 0, 0, 0, [], [])), (49, (.aload_n 0, 50, 0, 0, 0, [], [])), (50, (.getfield 25, 53, 0, 0, 0, [], [])), (53, (.iload_n 2, 54, 0, 0, 0, [], [])), (54, (.iaload, 55, 0, 0, 0, [], [])), (55, (.iastore, 56, 0, 0, 0, [], [])), (56, (.aload_n 0, 57, 0, 0, 0, [], [])), (57, (.getfield 40, 60, 0, 0, 0, [], [])), (60, (.iconst 3, 61, 0, 3, 0, [], [])), (61, (.aload_n 0, 62, 0, 0, 0, [], [])), (62, (.getfield 249, 65, 0, 0, 0, [], []))],
  [(65, (.imul, 66, 0, 0, 0, [], [])), (66, (.iconst 2, 67, 0, 2, 0, [], [])), (67, (.iadd, 68, 0, 0, 0, [], [])), (68, (.aload_n 0, 69, 0, 0, 0, [], [])), (69, (.getfield 22, 72, 0, 0, 0, [], [])), (72, (.iload_n 2, 73, 0, 0, 0, [], [])), (73, (.iaload, 74, 0, 0, 0, [], [])), (74, (.iastore, 75, 0, 0, 0, [], [])), (75, (.aload_n 0, 76, 0, 0, 0, [], [])), (76, (.dup, 77, 0, 0, 0, [], [])), (77, (.getfield 249, 80, 0, 0, 0, [], [])), (80, (.iconst 1, 81, 0, 1, 0, [], [])), (81, (.iadd, 82, 0, 0, 0, [], [])), (82, (.putfield 249, 85, 0, 0, 0, [], [])), (85, (.aload_n 0, 86, 0, 0, 0, [], [])), (86, (.iload_n 2, 87, 0, 0, 0, [], [])), (87, (.invokevirtual 112, 90, 0, 0, 0, [], [])), (90, (.istore_n 2, 91, 0, 0, 0, [], [])), (91, (.goto (-70), 94, 21, 0, 0, [], [])), (94, (.aload_n 0, 95, 0, 0, 0, [], [])), (95, (.getfield 249, 98, 0, 0, 0, [], []))],
  [(98, (.ireturn, 99, 0, 0, 0, [], []))]]
noncomputable abbrev zT_226 : zT := (12, zI_226, 1, 3) -- X12_prove
noncomputable def zI_227 : List (List (Nat × zE)) := [[(0, (.iload_n 1, 1, 0, 0, 0, [], [])), (1, (.i2l, 2, 0, 0, 0, [], [])), (2, (.lconst 0, 3, 0, 0, 0, [], [])), (3, (.aload_n 0, 4, 0, 0, 0, [], [])), (4, (.getfield 249, 7, 0, 0, 0, [], [])), (7, (.iconst 1, 8, 0, 1, 0, [], [])), (8, (.isub, 9, 0, 0, 0, [], [])), (9, (.i2l, 10, 0, 0, 0, [], [])), (10, (.invokestatic 67, 13, 0, 0, 0, [], [])), (13, (.ifCond .eq 19, 16, 32, 0, 0, [], [])), (16, (.iload_n 2, 17, 0, 0, 0, [], [])), (17, (.i2l, 18, 0, 0, 0, [], [])), (18, (.lconst 0, 19, 0, 0, 0, [], [])), (19, (.ldc2_w 151, 22, 0, 0, 2, [], [])), (22, (.invokestatic 67, 25, 0, 0, 0, [], [])), (25, (.ifCond .eq 7, 28, 32, 0, 0, [], [])), (28, (.iconst 1, 29, 0, 1, 0, [], [])), (29, (.goto 4, 32, 33, 0, 0, [], []))],
  [(32, (.iconst 0, 33, 0, 0, 0, [], [])), (33, (.ireturn, 34, 0, 0, 0, [], []))]]
noncomputable abbrev zT_227 : zT := (12, zI_227, 3, 3) -- X12_isRow
noncomputable def zI_228 : List (List (Nat × zE)) := [[(0, (.aload_n 0, 1, 0, 0, 0, [], [])), (1, (.iload_n 1, 2, 0, 0, 0, [], [])), (2, (.iload_n 2, 3, 0, 0, 0, [], [])), (3, (.invokevirtual 252, 6, 0, 0, 0, [], [])), (6, (.ifCond .eq 16, 9, 22, 0, 0, [], [])), (9, (.aload_n 0, 10, 0, 0, 0, [], [])), (10, (.getfield 40, 13, 0, 0, 0, [], [])), (13, (.iconst 3, 14, 0, 3, 0, [], [])), (14, (.iload_n 1, 15, 0, 0, 0, [], [])), (15, (.imul, 16, 0, 0, 0, [], [])), (16, (.iload_n 2, 17, 0, 0, 0, [], [])), (17, (.iadd, 18, 0, 0, 0, [], [])), (18, (.iaload, 19, 0, 0, 0, [], [])), (19, (.goto 5, 22, 24, 0, 0, [], [])), (22, (.bipush (-9), 24, 0, (-9), 0, [], [])), (24, (.ireturn, 25, 0, 0, 0, [], []))]]
noncomputable abbrev zT_228 : zT := (12, zI_228, 1, 3) -- X12_row
noncomputable def zI_229 : List (List (Nat × zE)) := [[(0, (.aload_n 0, 1, 0, 0, 0, [], [])), (1, (.iload_n 1, 2, 0, 0, 0, [], [])), (2, (.iload_n 2, 3, 0, 0, 0, [], [])), (3, (.invokevirtual 252, 6, 0, 0, 0, [], [])), (6, (.ifCond .ne 6, 9, 12, 0, 0, [], [])), (9, (.bipush (-9), 11, 0, (-9), 0, [], [])), (11, (.ireturn, 12, 0, 0, 0, [], [])), (12, (.aload_n 0, 13, 0, 0, 0, [], [])), (13, (.getfield 40, 16, 0, 0, 0, [], [])), (16, (.iconst 3, 17, 0, 3, 0, [], [])), (17, (.iload_n 1, 18, 0, 0, 0, [], [])), (18, (.imul, 19, 0, 0, 0, [], [])), (19, (.iload_n 2, 20, 0, 0, 0, [], [])), (20, (.iadd, 21, 0, 0, 0, [], [])), (21, (.iaload, 22, 0, 0, 0, [], [])), (22, (.istore 4, 24, 0, 0, 0, [], [])), (24, (.aload_n 0, 25, 0, 0, 0, [], [])), (25, (.getfield 40, 28, 0, 0, 0, [], [])), (28, (.iconst 3, 29, 0, 3, 0, [], [])), (29, (.iload_n 1, 30, 0, 0, 0, [], [])), (30, (.imul, 31, 0, 0, 0, [], [])), (31, (.iload_n 2, 32, 0, 0, 0, [], []))],
  [(32, (.iadd, 33, 0, 0, 0, [], [])), (33, (.iload_n 3, 34, 0, 0, 0, [], [])), (34, (.iastore, 35, 0, 0, 0, [], [])), (35, (.iload 4, 37, 0, 0, 0, [], [])), (37, (.ireturn, 38, 0, 0, 0, [], []))]]
noncomputable abbrev zT_229 : zT := (12, zI_229, 1, 5) -- X12_alterRow
noncomputable def zI_230 : List (List (Nat × zE)) := [[(0, (.aload_n 0, 1, 0, 0, 0, [], [])), (1, (.invokevirtual 140, 4, 0, 0, 0, [], [])), (4, (.iconst 0, 5, 0, 0, 0, [], [])), (5, (.istore_n 1, 6, 0, 0, 0, [], [])), (6, (.iload_n 1, 7, 0, 0, 0, [], [true, true, false])), (7, (.aload_n 0, 8, 0, 0, 0, [], [])), (8, (.getfield 249, 11, 0, 0, 0, [], [])), (11, (.if_icmp .ge 108, 14, 119, 0, 0, [], [])), (14, (.aload_n 0, 15, 0, 0, 0, [], [])), (15, (.getfield 40, 18, 0, 0, 0, [], [])), (18, (.iconst 3, 19, 0, 3, 0, [], [])), (19, (.iload_n 1, 20, 0, 0, 0, [], [])), (20, (.imul, 21, 0, 0, 0, [], [])), (21, (.iaload, 22, 0, 0, 0, [], [])), (22, (.istore_n 2, 23, 0, 0, 0, [], [])), (23, (.aload_n 0, 24, 0, 0, 0, [], [])), (24, (.iload_n 2, 25, 0, 0, 0, [], [])), (25, (.invokevirtual 84, 28, 0, 0, 0, [], [])), (28, (.ifCond .eq 81, 31, 109, 0, 0, [], [])), (31, (.iload_n 1, 32, 0, 0, 0, [], []))],
  [(32, (.ifCond .le 21, 35, 53, 0, 0, [], [])), (35, (.iload_n 2, 36, 0, 0, 0, [], [])), (36, (.aload_n 0, 37, 0, 0, 0, [], [])), (37, (.aload_n 0, 38, 0, 0, 0, [], [])), (38, (.getfield 40, 41, 0, 0, 0, [], [])), (41, (.iconst 3, 42, 0, 3, 0, [], [])), (42, (.iload_n 1, 43, 0, 0, 0, [], [])), (43, (.imul, 44, 0, 0, 0, [], [])), (44, (.iconst 3, 45, 0, 3, 0, [], [])), (45, (.isub, 46, 0, 0, 0, [], [])), (46, (.iaload, 47, 0, 0, 0, [], [])), (47, (.invokevirtual 112, 50, 0, 0, 0, [], [])), (50, (.if_icmp .ne 59, 53, 109, 0, 0, [], [])), (53, (.aload_n 0, 54, 0, 0, 0, [], [true, true, true])), (54, (.getfield 40, 57, 0, 0, 0, [], [])), (57, (.iconst 3, 58, 0, 3, 0, [], [])), (58, (.iload_n 1, 59, 0, 0, 0, [], [])), (59, (.imul, 60, 0, 0, 0, [], [])), (60, (.iconst 1, 61, 0, 1, 0, [], [])), (61, (.iadd, 62, 0, 0, 0, [], [])), (62, (.iaload, 63, 0, 0, 0, [], [])), (63, (.aload_n 0, 64, 0, 0, 0, [], []))],
  [(64, (.getfield 25, 67, 0, 0, 0, [], [])), (67, (.iload_n 2, 68, 0, 0, 0, [], [])), (68, (.iaload, 69, 0, 0, 0, [], [])), (69, (.if_icmp .ne 40, 72, 109, 0, 0, [], [])), (72, (.aload_n 0, 73, 0, 0, 0, [], [])), (73, (.getfield 40, 76, 0, 0, 0, [], [])), (76, (.iconst 3, 77, 0, 3, 0, [], [])), (77, (.iload_n 1, 78, 0, 0, 0, [], [])), (78, (.imul, 79, 0, 0, 0, [], [])), (79, (.iconst 2, 80, 0, 2, 0, [], [])), (80, (.iadd, 81, 0, 0, 0, [], [])), (81, (.iaload, 82, 0, 0, 0, [], [])), (82, (.aload_n 0, 83, 0, 0, 0, [], [])), (83, (.getfield 22, 86, 0, 0, 0, [], [])), (86, (.iload_n 2, 87, 0, 0, 0, [], [])), (87, (.iaload, 88, 0, 0, 0, [], [])), (88, (.if_icmp .ne 21, 91, 109, 0, 0, [], [])), (91, (.iload_n 1, 92, 0, 0, 0, [], [])), (92, (.aload_n 0, 93, 0, 0, 0, [], [])), (93, (.getfield 249, 96, 0, 0, 0, [], []))],
  [(96, (.iconst 1, 97, 0, 1, 0, [], [])), (97, (.isub, 98, 0, 0, 0, [], [])), (98, (.if_icmp .ne 15, 101, 113, 0, 0, [], [])), (101, (.aload_n 0, 102, 0, 0, 0, [], [])), (102, (.iload_n 2, 103, 0, 0, 0, [], [])), (103, (.invokevirtual 112, 106, 0, 0, 0, [], [])), (106, (.ifCond .lt 7, 109, 113, 0, 0, [], [])), (109, (.iload_n 1, 110, 0, 0, 0, [], [])), (110, (.iconst 1, 111, 0, 1, 0, [], [])), (111, (.iadd, 112, 0, 0, 0, [], [])), (112, (.ireturn, 113, 0, 0, 0, [], [])), (113, (.iinc 1 1, 116, 0, 1, 0, [], [])), (116, (.goto (-110), 119, 6, 0, 0, [], [])), (119, (.iconst 0, 120, 0, 0, 0, [], [])), (120, (.ireturn, 121, 0, 0, 0, [], []))]]
noncomputable abbrev zT_230 : zT := (12, zI_230, 1, 3) -- X12_judge
noncomputable def zI_231 : List (List (Nat × zE)) := [[(0, (.iload_n 3, 1, 0, 0, 0, [], [])), (1, (.i2l, 2, 0, 0, 0, [], [])), (2, (.lconst 1, 3, 0, 0, 1, [], [])), (3, (.ldc2_w 255, 6, 0, 0, 8, [], [])), (6, (.invokestatic 67, 9, 0, 0, 0, [], [])), (9, (.ifCond .ne 5, 12, 14, 0, 0, [], [])), (12, (.iconst (-1), 13, 0, (-1), 0, [], [])), (13, (.ireturn, 14, 0, 0, 0, [], [])), (14, (.aload_n 0, 15, 0, 0, 0, [], [])), (15, (.getfield 257, 18, 0, 0, 0, [], [])), (18, (.iload_n 3, 19, 0, 0, 0, [], [])), (19, (.iadd, 20, 0, 0, 0, [], [])), (20, (.sipush 200, 23, 0, 200, 0, [], [])), (23, (.if_icmp .le 6, 26, 29, 0, 0, [], [])), (26, (.bipush (-2), 28, 0, (-2), 0, [], [])), (28, (.ireturn, 29, 0, 0, 0, [], [])), (29, (.iconst 0, 30, 0, 0, 0, [], [])), (30, (.istore 4, 32, 0, 0, 0, [], []))],
  [(32, (.iload 4, 34, 0, 0, 0, [], [true, true, false, true, true])), (34, (.iload_n 3, 35, 0, 0, 0, [], [])), (35, (.if_icmp .ge 40, 38, 75, 0, 0, [], [])), (38, (.aload_n 0, 39, 0, 0, 0, [], [])), (39, (.getfield 43, 42, 0, 0, 0, [], [])), (42, (.aload_n 0, 43, 0, 0, 0, [], [])), (43, (.getfield 257, 46, 0, 0, 0, [], [])), (46, (.lload_n 1, 47, 0, 0, 0, [], [])), (47, (.bipush 8, 49, 0, 8, 0, [], [])), (49, (.iload 4, 51, 0, 0, 0, [], [])), (51, (.imul, 52, 0, 0, 0, [], [])), (52, (.lshr, 53, 0, 0, 0, [], [])), (53, (.ldc2_w 260, 56, 0, 0, 255, [], [])), (56, (.land, 57, 0, 0, 0, [], [])), (57, (.l2i, 58, 0, 0, 0, [], [])), (58, (.iastore, 59, 0, 0, 0, [], [])), (59, (.aload_n 0, 60, 0, 0, 0, [], [])), (60, (.dup, 61, 0, 0, 0, [], [])), (61, (.getfield 257, 64, 0, 0, 0, [], []))],
  [(64, (.iconst 1, 65, 0, 1, 0, [], [])), (65, (.iadd, 66, 0, 0, 0, [], [])), (66, (.putfield 257, 69, 0, 0, 0, [], [])), (69, (.iinc 4 1, 72, 0, 1, 0, [], [])), (72, (.goto (-40), 75, 32, 0, 0, [], [])), (75, (.aload_n 0, 76, 0, 0, 0, [], [])), (76, (.getfield 257, 79, 0, 0, 0, [], [])), (79, (.ireturn, 80, 0, 0, 0, [], []))]]
noncomputable abbrev zT_231 : zT := (12, zI_231, 1, 5) -- X12_feed
noncomputable def zI_232 : List (List (Nat × zE)) := [[(0, (.iload_n 1, 1, 0, 0, 0, [], [])), (1, (.aload_n 0, 2, 0, 0, 0, [], [])), (2, (.getfield 257, 5, 0, 0, 0, [], [])), (5, (.if_icmp .ge 12, 8, 17, 0, 0, [], [])), (8, (.aload_n 0, 9, 0, 0, 0, [], [])), (9, (.getfield 43, 12, 0, 0, 0, [], [])), (12, (.iload_n 1, 13, 0, 0, 0, [], [])), (13, (.iaload, 14, 0, 0, 0, [], [])), (14, (.goto 4, 17, 18, 0, 0, [], [])), (17, (.iconst (-1), 18, 0, (-1), 0, [], [])), (18, (.ireturn, 19, 0, 0, 0, [], []))]]
noncomputable abbrev zT_232 : zT := (12, zI_232, 1, 2) -- X12_byteAt
noncomputable def zI_233 : List (List (Nat × zE)) := [[(0, (.iload_n 0, 1, 0, 0, 0, [], [])), (1, (.i2l, 2, 0, 0, 0, [], [])), (2, (.ldc2_w 262, 5, 0, 0, 97, [], [])), (5, (.ldc2_w 264, 8, 0, 0, 122, [], [])), (8, (.invokestatic 67, 11, 0, 0, 0, [], [])), (11, (.ireturn, 12, 0, 0, 0, [], []))]]
noncomputable abbrev zT_233 : zT := (12, zI_233, 3, 1) -- X12_isLetter
noncomputable def zI_234 : List (List (Nat × zE)) := [[(0, (.iload_n 0, 1, 0, 0, 0, [], [])), (1, (.i2l, 2, 0, 0, 0, [], [])), (2, (.ldc2_w 266, 5, 0, 0, 48, [], [])), (5, (.ldc2_w 268, 8, 0, 0, 57, [], [])), (8, (.invokestatic 67, 11, 0, 0, 0, [], [])), (11, (.ireturn, 12, 0, 0, 0, [], []))]]
noncomputable abbrev zT_234 : zT := (12, zI_234, 3, 1) -- X12_isDigit
noncomputable def zI_235 : List (List (Nat × zE)) := [[(0, (.aload_n 0, 1, 0, 0, 0, [], [])), (1, (.aload_n 0, 2, 0, 0, 0, [], [])), (2, (.getfield 270, 5, 0, 0, 0, [], [])), (5, (.putfield 273, 8, 0, 0, 0, [], [])), (8, (.aload_n 0, 9, 0, 0, 0, [], [true, false, false])), (9, (.aload_n 0, 10, 0, 0, 0, [], [])), (10, (.getfield 273, 13, 0, 0, 0, [], [])), (13, (.invokevirtual 276, 16, 0, 0, 0, [], [])), (16, (.bipush 32, 18, 0, 32, 0, [], [])), (18, (.if_icmp .ne 16, 21, 34, 0, 0, [], [])), (21, (.aload_n 0, 22, 0, 0, 0, [], [])), (22, (.dup, 23, 0, 0, 0, [], [])), (23, (.getfield 273, 26, 0, 0, 0, [], [])), (26, (.iconst 1, 27, 0, 1, 0, [], [])), (27, (.iadd, 28, 0, 0, 0, [], [])), (28, (.putfield 273, 31, 0, 0, 0, [], [])), (31, (.goto (-23), 34, 8, 0, 0, [], []))],
  [(34, (.aload_n 0, 35, 0, 0, 0, [], [])), (35, (.aload_n 0, 36, 0, 0, 0, [], [])), (36, (.getfield 273, 39, 0, 0, 0, [], [])), (39, (.invokevirtual 276, 42, 0, 0, 0, [], [])), (42, (.invokestatic 279, 45, 0, 0, 0, [], [])), (45, (.istore_n 1, 46, 0, 0, 0, [], [])), (46, (.aload_n 0, 47, 0, 0, 0, [], [])), (47, (.aload_n 0, 48, 0, 0, 0, [], [])), (48, (.getfield 273, 51, 0, 0, 0, [], [])), (51, (.invokevirtual 276, 54, 0, 0, 0, [], [])), (54, (.invokestatic 282, 57, 0, 0, 0, [], [])), (57, (.istore_n 2, 58, 0, 0, 0, [], [])), (58, (.aload_n 0, 59, 0, 0, 0, [], [])), (59, (.aload_n 0, 60, 0, 0, 0, [], [])), (60, (.getfield 273, 63, 0, 0, 0, [], [])), (63, (.aload_n 0, 64, 0, 0, 0, [], []))],
  [(64, (.getfield 257, 67, 0, 0, 0, [], [])), (67, (.if_icmp .ge 12, 70, 79, 0, 0, [], [])), (70, (.aload_n 0, 71, 0, 0, 0, [], [])), (71, (.getfield 273, 74, 0, 0, 0, [], [])), (74, (.iconst 1, 75, 0, 1, 0, [], [])), (75, (.iadd, 76, 0, 0, 0, [], [])), (76, (.goto 7, 79, 83, 0, 0, [], [])), (79, (.aload_n 0, 80, 0, 0, 0, [], [])), (80, (.getfield 273, 83, 0, 0, 0, [], [])), (83, (.putfield 270, 86, 0, 0, 0, [], [])), (86, (.iload_n 1, 87, 0, 0, 0, [], [true, true, true])), (87, (.ifCond .eq 17, 90, 104, 0, 0, [], [])), (90, (.aload_n 0, 91, 0, 0, 0, [], [])), (91, (.aload_n 0, 92, 0, 0, 0, [], [])), (92, (.getfield 270, 95, 0, 0, 0, [], [])), (95, (.invokevirtual 276, 98, 0, 0, 0, [], []))],
  [(98, (.invokestatic 279, 101, 0, 0, 0, [], [])), (101, (.ifCond .ne 21, 104, 122, 0, 0, [], [])), (104, (.iload_n 2, 105, 0, 0, 0, [], [true, true, true])), (105, (.ifCond .eq 30, 108, 135, 0, 0, [], [])), (108, (.aload_n 0, 109, 0, 0, 0, [], [])), (109, (.aload_n 0, 110, 0, 0, 0, [], [])), (110, (.getfield 270, 113, 0, 0, 0, [], [])), (113, (.invokevirtual 276, 116, 0, 0, 0, [], [])), (116, (.invokestatic 282, 119, 0, 0, 0, [], [])), (119, (.ifCond .eq 16, 122, 135, 0, 0, [], [])), (122, (.aload_n 0, 123, 0, 0, 0, [], [])), (123, (.dup, 124, 0, 0, 0, [], [])), (124, (.getfield 270, 127, 0, 0, 0, [], [])), (127, (.iconst 1, 128, 0, 1, 0, [], []))],
  [(128, (.iadd, 129, 0, 0, 0, [], [])), (129, (.putfield 270, 132, 0, 0, 0, [], [])), (132, (.goto (-46), 135, 86, 0, 0, [], [])), (135, (.return_, 136, 0, 0, 0, [], []))]]
noncomputable abbrev zT_235 : zT := (12, zI_235, 0, 3) -- X12_token
noncomputable def zI_236 : List (List (Nat × zE)) := [[(0, (.aload_n 0, 1, 0, 0, 0, [], [])), (1, (.aload_n 0, 2, 0, 0, 0, [], [])), (2, (.getfield 285, 5, 0, 0, 0, [], [])), (5, (.ifCond .ne 7, 8, 12, 0, 0, [], [])), (8, (.iload_n 1, 9, 0, 0, 0, [], [])), (9, (.ifCond .ne 7, 12, 16, 0, 0, [], [])), (12, (.iconst 1, 13, 0, 1, 0, [], [])), (13, (.goto 4, 16, 17, 0, 0, [], [])), (16, (.iconst 0, 17, 0, 0, 0, [], [])), (17, (.putfield 285, 20, 0, 0, 0, [], [])), (20, (.aload_n 0, 21, 0, 0, 0, [], [])), (21, (.getfield 285, 24, 0, 0, 0, [], [])), (24, (.ifCond .ne 7, 27, 31, 0, 0, [], [])), (27, (.aload_n 0, 28, 0, 0, 0, [], [])), (28, (.invokevirtual 289, 31, 0, 0, 0, [], [])), (31, (.return_, 32, 0, 0, 0, [], []))]]
noncomputable abbrev zT_236 : zT := (12, zI_236, 0, 2) -- X12_needs
noncomputable def zI_237 : List (List (Nat × zE)) := [[(0, (.lconst 0, 1, 0, 0, 0, [], [])), (1, (.lstore_n 1, 2, 0, 0, 0, [], [])), (2, (.aload_n 0, 3, 0, 0, 0, [], [])), (3, (.getfield 273, 6, 0, 0, 0, [], [])), (6, (.istore_n 3, 7, 0, 0, 0, [], [])), (7, (.iload_n 3, 8, 0, 0, 0, [], [true, true, false, true])), (8, (.aload_n 0, 9, 0, 0, 0, [], [])), (9, (.getfield 270, 12, 0, 0, 0, [], [])), (12, (.if_icmp .ge 38, 15, 50, 0, 0, [], [])), (15, (.lload_n 1, 16, 0, 0, 0, [], [])), (16, (.ldc2_w 292, 19, 0, 0, 36028797018963967, [], [])), (19, (.lcmp, 20, 0, 0, 0, [], [])), (20, (.ifCond .le 7, 23, 27, 0, 0, [], [])), (23, (.lload_n 1, 24, 0, 0, 0, [], [])), (24, (.goto 19, 27, 43, 0, 0, [], [])), (27, (.ldc2_w 294, 30, 0, 0, 32, [], [])), (30, (.lload_n 1, 31, 0, 0, 0, [], [])), (31, (.lmul, 32, 0, 0, 0, [], []))],
  [(32, (.aload_n 0, 33, 0, 0, 0, [], [])), (33, (.getfield 43, 36, 0, 0, 0, [], [])), (36, (.iload_n 3, 37, 0, 0, 0, [], [])), (37, (.iaload, 38, 0, 0, 0, [], [])), (38, (.bipush 96, 40, 0, 96, 0, [], [])), (40, (.isub, 41, 0, 0, 0, [], [])), (41, (.i2l, 42, 0, 0, 0, [], [])), (42, (.ladd, 43, 0, 0, 0, [], [])), (43, (.lstore_n 1, 44, 0, 0, 0, [], [])), (44, (.iinc 3 1, 47, 0, 1, 0, [], [])), (47, (.goto (-40), 50, 7, 0, 0, [], [])), (50, (.aload_n 0, 51, 0, 0, 0, [], [])), (51, (.getfield 285, 54, 0, 0, 0, [], [])), (54, (.ifCond .ne 17, 57, 71, 0, 0, [], [])), (57, (.aload_n 0, 58, 0, 0, 0, [], [])), (58, (.aload_n 0, 59, 0, 0, 0, [], [])), (59, (.getfield 273, 62, 0, 0, 0, [], [])), (62, (.invokevirtual 276, 65, 0, 0, 0, [], []))],
  [(65, (.invokestatic 279, 68, 0, 0, 0, [], [])), (68, (.ifCond .ne 7, 71, 75, 0, 0, [], [])), (71, (.lconst 0, 72, 0, 0, 0, [], [])), (72, (.goto 4, 75, 76, 0, 0, [], [])), (75, (.lload_n 1, 76, 0, 0, 0, [], [])), (76, (.lreturn, 77, 0, 0, 0, [], []))]]
noncomputable abbrev zT_237 : zT := (12, zI_237, 2, 4) -- X12_word
noncomputable def zI_238 : List (List (Nat × zE)) := [[(0, (.aload_n 0, 1, 0, 0, 0, [], [])), (1, (.aload_n 0, 2, 0, 0, 0, [], [])), (2, (.getfield 273, 5, 0, 0, 0, [], [])), (5, (.invokevirtual 276, 8, 0, 0, 0, [], [])), (8, (.invokestatic 282, 11, 0, 0, 0, [], [])), (11, (.ifCond .eq 20, 14, 31, 0, 0, [], [])), (14, (.aload_n 0, 15, 0, 0, 0, [], [])), (15, (.getfield 270, 18, 0, 0, 0, [], [])), (18, (.aload_n 0, 19, 0, 0, 0, [], [])), (19, (.getfield 273, 22, 0, 0, 0, [], [])), (22, (.isub, 23, 0, 0, 0, [], [])), (23, (.iconst 5, 24, 0, 5, 0, [], [])), (24, (.if_icmp .ge 7, 27, 31, 0, 0, [], [])), (27, (.iconst 1, 28, 0, 1, 0, [], [])), (28, (.goto 4, 31, 32, 0, 0, [], [])), (31, (.iconst 0, 32, 0, 0, 0, [], []))],
  [(32, (.istore_n 2, 33, 0, 0, 0, [], [])), (33, (.aload_n 0, 34, 0, 0, 0, [], [])), (34, (.iconst 0, 35, 0, 0, 0, [], [])), (35, (.putfield 296, 38, 0, 0, 0, [], [])), (38, (.aload_n 0, 39, 0, 0, 0, [], [])), (39, (.getfield 273, 42, 0, 0, 0, [], [])), (42, (.istore_n 3, 43, 0, 0, 0, [], [])), (43, (.iload_n 3, 44, 0, 0, 0, [], [true, true, true, true])), (44, (.aload_n 0, 45, 0, 0, 0, [], [])), (45, (.getfield 270, 48, 0, 0, 0, [], [])), (48, (.if_icmp .ge 34, 51, 82, 0, 0, [], [])), (51, (.iload_n 2, 52, 0, 0, 0, [], [])), (52, (.ifCond .eq 30, 55, 82, 0, 0, [], [])), (55, (.aload_n 0, 56, 0, 0, 0, [], [])), (56, (.bipush 10, 58, 0, 10, 0, [], [])), (58, (.aload_n 0, 59, 0, 0, 0, [], [])), (59, (.getfield 296, 62, 0, 0, 0, [], [])), (62, (.imul, 63, 0, 0, 0, [], [])), (63, (.aload_n 0, 64, 0, 0, 0, [], []))],
  [(64, (.getfield 43, 67, 0, 0, 0, [], [])), (67, (.iload_n 3, 68, 0, 0, 0, [], [])), (68, (.iaload, 69, 0, 0, 0, [], [])), (69, (.iadd, 70, 0, 0, 0, [], [])), (70, (.bipush 48, 72, 0, 48, 0, [], [])), (72, (.isub, 73, 0, 0, 0, [], [])), (73, (.putfield 296, 76, 0, 0, 0, [], [])), (76, (.iinc 3 1, 79, 0, 1, 0, [], [])), (79, (.goto (-36), 82, 43, 0, 0, [], [])), (82, (.aload_n 0, 83, 0, 0, 0, [], [])), (83, (.iload_n 2, 84, 0, 0, 0, [], [])), (84, (.ifCond .eq 15, 87, 99, 0, 0, [], [])), (87, (.aload_n 0, 88, 0, 0, 0, [], [])), (88, (.getfield 296, 91, 0, 0, 0, [], [])), (91, (.iload_n 1, 92, 0, 0, 0, [], [])), (92, (.if_icmp .gt 7, 95, 99, 0, 0, [], [])), (95, (.iconst 1, 96, 0, 1, 0, [], []))],
  [(96, (.goto 4, 99, 100, 0, 0, [], [])), (99, (.iconst 0, 100, 0, 0, 0, [], [])), (100, (.invokevirtual 299, 103, 0, 0, 0, [], [])), (103, (.return_, 104, 0, 0, 0, [], []))]]
noncomputable abbrev zT_238 : zT := (12, zI_238, 0, 4) -- X12_number
noncomputable def zI_239 : List (List (Nat × zE)) := [[(0, (.aload_n 0, 1, 0, 0, 0, [], [])), (1, (.invokevirtual 303, 4, 0, 0, 0, [], [])), (4, (.lstore_n 1, 5, 0, 0, 0, [], [])), (5, (.lload_n 1, 6, 0, 0, 0, [], [])), (6, (.ldc2_w 307, 9, 0, 0, 2610408, [], [])), (9, (.lcmp, 10, 0, 0, 0, [], [])), (10, (.ifCond .ne 7, 13, 17, 0, 0, [], [])), (13, (.iconst 0, 14, 0, 0, 0, [], [])), (14, (.goto 64, 17, 78, 0, 0, [], [])), (17, (.lload_n 1, 18, 0, 0, 0, [], [])), (18, (.ldc2_w 309, 21, 0, 0, 7935150, [], [])), (21, (.lcmp, 22, 0, 0, 0, [], [])), (22, (.ifCond .ne 7, 25, 29, 0, 0, [], [])), (25, (.iconst 1, 26, 0, 1, 0, [], [])), (26, (.goto 52, 29, 78, 0, 0, [], [])), (29, (.lload_n 1, 30, 0, 0, 0, [], [])), (30, (.ldc2_w 311, 33, 0, 0, 4697, [], []))],
  [(33, (.lcmp, 34, 0, 0, 0, [], [])), (34, (.ifCond .ne 7, 37, 41, 0, 0, [], [])), (37, (.iconst 2, 38, 0, 2, 0, [], [])), (38, (.goto 40, 41, 78, 0, 0, [], [])), (41, (.lload_n 1, 42, 0, 0, 0, [], [])), (42, (.ldc2_w 313, 45, 0, 0, 15748, [], [])), (45, (.lcmp, 46, 0, 0, 0, [], [])), (46, (.ifCond .ne 7, 49, 53, 0, 0, [], [])), (49, (.iconst 3, 50, 0, 3, 0, [], [])), (50, (.goto 28, 53, 78, 0, 0, [], [])), (53, (.lload_n 1, 54, 0, 0, 0, [], [])), (54, (.ldc2_w 315, 57, 0, 0, 17800118436, [], [])), (57, (.lcmp, 58, 0, 0, 0, [], [])), (58, (.ifCond .ne 7, 61, 65, 0, 0, [], [])), (61, (.iconst 4, 62, 0, 4, 0, [], [])), (62, (.goto 16, 65, 78, 0, 0, [], []))],
  [(65, (.lload_n 1, 66, 0, 0, 0, [], [])), (66, (.ldc2_w 317, 69, 0, 0, 11843827, [], [])), (69, (.lcmp, 70, 0, 0, 0, [], [])), (70, (.ifCond .ne 7, 73, 77, 0, 0, [], [])), (73, (.iconst 5, 74, 0, 5, 0, [], [])), (74, (.goto 4, 77, 78, 0, 0, [], [])), (77, (.iconst (-1), 78, 0, (-1), 0, [], [])), (78, (.ireturn, 79, 0, 0, 0, [], []))]]
noncomputable abbrev zT_239 : zT := (12, zI_239, 1, 3) -- X12_kindHere
noncomputable def zI_240 : List (List (Nat × zE)) := [[(0, (.aload_n 0, 1, 0, 0, 0, [], [])), (1, (.invokevirtual 303, 4, 0, 0, 0, [], [])), (4, (.lstore_n 1, 5, 0, 0, 0, [], [])), (5, (.lload_n 1, 6, 0, 0, 0, [], [])), (6, (.ldc2_w 319, 9, 0, 0, 19504, [], [])), (9, (.lcmp, 10, 0, 0, 0, [], [])), (10, (.ifCond .ne 7, 13, 17, 0, 0, [], [])), (13, (.iconst (-1), 14, 0, (-1), 0, [], [])), (14, (.goto 56, 17, 70, 0, 0, [], [])), (17, (.lload_n 1, 18, 0, 0, 0, [], [])), (18, (.ldc2_w 321, 21, 0, 0, 763332, [], [])), (21, (.lcmp, 22, 0, 0, 0, [], [])), (22, (.ifCond .ne 8, 25, 30, 0, 0, [], [])), (25, (.bipush (-2), 27, 0, (-2), 0, [], [])), (27, (.goto 43, 30, 70, 0, 0, [], [])), (30, (.lload_n 1, 31, 0, 0, 0, [], [])), (31, (.ldc2_w 323, 34, 0, 0, 409031, [], []))],
  [(34, (.lcmp, 35, 0, 0, 0, [], [])), (35, (.ifCond .ne 8, 38, 43, 0, 0, [], [])), (38, (.bipush (-3), 40, 0, (-3), 0, [], [])), (40, (.goto 30, 43, 70, 0, 0, [], [])), (43, (.lload_n 1, 44, 0, 0, 0, [], [])), (44, (.ldc2_w 325, 47, 0, 0, 8892563, [], [])), (47, (.lcmp, 48, 0, 0, 0, [], [])), (48, (.ifCond .ne 8, 51, 56, 0, 0, [], [])), (51, (.bipush (-4), 53, 0, (-4), 0, [], [])), (53, (.goto 17, 56, 70, 0, 0, [], [])), (56, (.lload_n 1, 57, 0, 0, 0, [], [])), (57, (.ldc2_w 327, 60, 0, 0, 492210354, [], [])), (60, (.lcmp, 61, 0, 0, 0, [], [])), (61, (.ifCond .ne 8, 64, 69, 0, 0, [], []))],
  [(64, (.bipush (-5), 66, 0, (-5), 0, [], [])), (66, (.goto 4, 69, 70, 0, 0, [], [])), (69, (.iconst 0, 70, 0, 0, 0, [], [])), (70, (.ireturn, 71, 0, 0, 0, [], []))]]
noncomputable abbrev zT_240 : zT := (12, zI_240, 1, 3) -- X12_factHere
noncomputable def zI_241 : List (List (Nat × zE)) := [[(0, (.aload_n 0, 1, 0, 0, 0, [], [])), (1, (.getfield 285, 4, 0, 0, 0, [], [])), (4, (.ifCond .ne 26, 7, 30, 0, 0, [], [])), (7, (.aload_n 0, 8, 0, 0, 0, [], [])), (8, (.getfield 7, 11, 0, 0, 0, [], [])), (11, (.bipush 120, 13, 0, 120, 0, [], [])), (13, (.aload_n 0, 14, 0, 0, 0, [], [])), (14, (.getfield 329, 17, 0, 0, 0, [], [])), (17, (.iadd, 18, 0, 0, 0, [], [])), (18, (.iload_n 1, 19, 0, 0, 0, [], [])), (19, (.iastore, 20, 0, 0, 0, [], [])), (20, (.aload_n 0, 21, 0, 0, 0, [], [])), (21, (.dup, 22, 0, 0, 0, [], [])), (22, (.getfield 329, 25, 0, 0, 0, [], [])), (25, (.iconst 1, 26, 0, 1, 0, [], [])), (26, (.iadd, 27, 0, 0, 0, [], [])), (27, (.putfield 329, 30, 0, 0, 0, [], [])), (30, (.return_, 31, 0, 0, 0, [], []))]]
noncomputable abbrev zT_241 : zT := (12, zI_241, 0, 2) -- X12_writes
noncomputable def zI_242 : List (List (Nat × zE)) := [[(0, (.aload_n 0, 1, 0, 0, 0, [], [])), (1, (.invokevirtual 332, 4, 0, 0, 0, [], [])), (4, (.istore_n 1, 5, 0, 0, 0, [], [])), (5, (.iload_n 1, 6, 0, 0, 0, [], [])), (6, (.ifCond .ge 16, 9, 22, 0, 0, [], [])), (9, (.aload_n 0, 10, 0, 0, 0, [], [])), (10, (.iconst 1, 11, 0, 1, 0, [], [])), (11, (.invokevirtual 299, 14, 0, 0, 0, [], [])), (14, (.aload_n 0, 15, 0, 0, 0, [], [])), (15, (.iload_n 1, 16, 0, 0, 0, [], [])), (16, (.invokevirtual 335, 19, 0, 0, 0, [], [])), (19, (.goto 25, 22, 44, 0, 0, [], [])), (22, (.aload_n 0, 23, 0, 0, 0, [], [])), (23, (.getfield 285, 26, 0, 0, 0, [], [])), (26, (.ifCond .ne 18, 29, 44, 0, 0, [], [])), (29, (.aload_n 0, 30, 0, 0, 0, [], [])), (30, (.sipush 9999, 33, 0, 9999, 0, [], []))],
  [(33, (.invokevirtual 338, 36, 0, 0, 0, [], [])), (36, (.aload_n 0, 37, 0, 0, 0, [], [])), (37, (.aload_n 0, 38, 0, 0, 0, [], [])), (38, (.getfield 296, 41, 0, 0, 0, [], [])), (41, (.invokevirtual 335, 44, 0, 0, 0, [], [])), (44, (.return_, 45, 0, 0, 0, [], []))]]
noncomputable abbrev zT_242 : zT := (12, zI_242, 0, 2) -- X12_valueHere
noncomputable def zI_243 : List (List (Nat × zE)) := [[(0, (.aload_n 0, 1, 0, 0, 0, [], [])), (1, (.invokevirtual 341, 4, 0, 0, 0, [], [])), (4, (.aload_n 0, 5, 0, 0, 0, [], [])), (5, (.getfield 285, 8, 0, 0, 0, [], [])), (8, (.ifCond .eq 7, 11, 15, 0, 0, [], [])), (11, (.iconst (-1), 12, 0, (-1), 0, [], [])), (12, (.goto 11, 15, 23, 0, 0, [], [])), (15, (.aload_n 0, 16, 0, 0, 0, [], [])), (16, (.aload_n 0, 17, 0, 0, 0, [], [])), (17, (.getfield 273, 20, 0, 0, 0, [], [])), (20, (.invokevirtual 276, 23, 0, 0, 0, [], [])), (23, (.istore_n 1, 24, 0, 0, 0, [], [true, false])), (24, (.aload_n 0, 25, 0, 0, 0, [], [])), (25, (.iload_n 1, 26, 0, 0, 0, [], [])), (26, (.bipush 60, 28, 0, 60, 0, [], [])), (28, (.if_icmp .eq 15, 31, 43, 0, 0, [], [])), (31, (.iload_n 1, 32, 0, 0, 0, [], []))],
  [(32, (.bipush 61, 34, 0, 61, 0, [], [])), (34, (.if_icmp .eq 9, 37, 43, 0, 0, [], [])), (37, (.iload_n 1, 38, 0, 0, 0, [], [])), (38, (.bipush 62, 40, 0, 62, 0, [], [])), (40, (.if_icmp .ne 7, 43, 47, 0, 0, [], [])), (43, (.iconst 1, 44, 0, 1, 0, [], [true, true])), (44, (.goto 4, 47, 48, 0, 0, [], [])), (47, (.iconst 0, 48, 0, 0, 0, [], [])), (48, (.invokevirtual 299, 51, 0, 0, 0, [], [true, true])), (51, (.aload_n 0, 52, 0, 0, 0, [], [])), (52, (.invokevirtual 341, 55, 0, 0, 0, [], [])), (55, (.aload_n 0, 56, 0, 0, 0, [], [])), (56, (.iload_n 1, 57, 0, 0, 0, [], [])), (57, (.bipush 60, 59, 0, 60, 0, [], [])), (59, (.if_icmp .ne 8, 62, 67, 0, 0, [], [])), (62, (.bipush (-11), 64, 0, (-11), 0, [], []))],
  [(64, (.goto 16, 67, 80, 0, 0, [], [])), (67, (.iload_n 1, 68, 0, 0, 0, [], [])), (68, (.bipush 61, 70, 0, 61, 0, [], [])), (70, (.if_icmp .ne 8, 73, 78, 0, 0, [], [])), (73, (.bipush (-12), 75, 0, (-12), 0, [], [])), (75, (.goto 5, 78, 80, 0, 0, [], [])), (78, (.bipush (-13), 80, 0, (-13), 0, [], [])), (80, (.invokevirtual 335, 83, 0, 0, 0, [], [])), (83, (.return_, 84, 0, 0, 0, [], []))]]
noncomputable abbrev zT_243 : zT := (12, zI_243, 0, 2) -- X12_comparison
noncomputable def zI_244 : List (List (Nat × zE)) := [[(0, (.iconst 0, 1, 0, 0, 0, [], [])), (1, (.istore_n 1, 2, 0, 0, 0, [], [])), (2, (.aload_n 0, 3, 0, 0, 0, [], [true, true])), (3, (.invokevirtual 303, 6, 0, 0, 0, [], [])), (6, (.ldc2_w 344, 9, 0, 0, 14836, [], [])), (9, (.lcmp, 10, 0, 0, 0, [], [])), (10, (.ifCond .ne 21, 13, 31, 0, 0, [], [])), (13, (.iload_n 1, 14, 0, 0, 0, [], [])), (14, (.ifCond .ne 7, 17, 21, 0, 0, [], [])), (17, (.iconst 1, 18, 0, 1, 0, [], [])), (18, (.goto 4, 21, 22, 0, 0, [], [])), (21, (.iconst 0, 22, 0, 0, 0, [], [])), (22, (.istore_n 1, 23, 0, 0, 0, [], [])), (23, (.aload_n 0, 24, 0, 0, 0, [], [])), (24, (.iconst 1, 25, 0, 1, 0, [], [])), (25, (.invokevirtual 299, 28, 0, 0, 0, [], [])), (28, (.goto (-26), 31, 2, 0, 0, [], [])), (31, (.aload_n 0, 32, 0, 0, 0, [], []))],
  [(32, (.getfield 285, 35, 0, 0, 0, [], [])), (35, (.ifCond .ne 89, 38, 124, 0, 0, [], [])), (38, (.aload_n 0, 39, 0, 0, 0, [], [])), (39, (.aload_n 0, 40, 0, 0, 0, [], [])), (40, (.getfield 273, 43, 0, 0, 0, [], [])), (43, (.invokevirtual 276, 46, 0, 0, 0, [], [])), (46, (.bipush 40, 48, 0, 40, 0, [], [])), (48, (.if_icmp .ne 76, 51, 124, 0, 0, [], [])), (51, (.aload_n 0, 52, 0, 0, 0, [], [])), (52, (.aload_n 0, 53, 0, 0, 0, [], [])), (53, (.getfield 346, 56, 0, 0, 0, [], [])), (56, (.iconst 3, 57, 0, 3, 0, [], [])), (57, (.if_icmp .ge 7, 60, 64, 0, 0, [], [])), (60, (.iconst 1, 61, 0, 1, 0, [], [])), (61, (.goto 4, 64, 65, 0, 0, [], []))],
  [(64, (.iconst 0, 65, 0, 0, 0, [], [])), (65, (.invokevirtual 299, 68, 0, 0, 0, [], [true, true])), (68, (.aload_n 0, 69, 0, 0, 0, [], [])), (69, (.dup, 70, 0, 0, 0, [], [])), (70, (.getfield 346, 73, 0, 0, 0, [], [])), (73, (.iconst 1, 74, 0, 1, 0, [], [])), (74, (.iadd, 75, 0, 0, 0, [], [])), (75, (.putfield 346, 78, 0, 0, 0, [], [])), (78, (.aload_n 0, 79, 0, 0, 0, [], [])), (79, (.invokevirtual 349, 82, 0, 0, 0, [], [])), (82, (.aload_n 0, 83, 0, 0, 0, [], [])), (83, (.dup, 84, 0, 0, 0, [], [])), (84, (.getfield 346, 87, 0, 0, 0, [], [])), (87, (.iconst 1, 88, 0, 1, 0, [], [])), (88, (.isub, 89, 0, 0, 0, [], [])), (89, (.putfield 346, 92, 0, 0, 0, [], [])), (92, (.aload_n 0, 93, 0, 0, 0, [], [])), (93, (.aload_n 0, 94, 0, 0, 0, [], [])), (94, (.getfield 285, 97, 0, 0, 0, [], []))],
  [(97, (.ifCond .ne 20, 100, 117, 0, 0, [], [])), (100, (.aload_n 0, 101, 0, 0, 0, [], [])), (101, (.aload_n 0, 102, 0, 0, 0, [], [])), (102, (.getfield 273, 105, 0, 0, 0, [], [])), (105, (.invokevirtual 276, 108, 0, 0, 0, [], [])), (108, (.bipush 41, 110, 0, 41, 0, [], [])), (110, (.if_icmp .ne 7, 113, 117, 0, 0, [], [])), (113, (.iconst 1, 114, 0, 1, 0, [], [])), (114, (.goto 4, 117, 118, 0, 0, [], [])), (117, (.iconst 0, 118, 0, 0, 0, [], [])), (118, (.invokevirtual 299, 121, 0, 0, 0, [], [])), (121, (.goto 7, 124, 128, 0, 0, [], [])), (124, (.aload_n 0, 125, 0, 0, 0, [], [])), (125, (.invokevirtual 352, 128, 0, 0, 0, [], []))],
  [(128, (.iload_n 1, 129, 0, 0, 0, [], [])), (129, (.ifCond .eq 9, 132, 138, 0, 0, [], [])), (132, (.aload_n 0, 133, 0, 0, 0, [], [])), (133, (.bipush (-20), 135, 0, (-20), 0, [], [])), (135, (.invokevirtual 335, 138, 0, 0, 0, [], [])), (138, (.return_, 139, 0, 0, 0, [], []))]]
noncomputable abbrev zT_244 : zT := (12, zI_244, 0, 2) -- X12_one
noncomputable def zI_245 : List (List (Nat × zE)) := [[(0, (.aload_n 0, 1, 0, 0, 0, [], [])), (1, (.invokevirtual 355, 4, 0, 0, 0, [], [])), (4, (.aload_n 0, 5, 0, 0, 0, [], [true])), (5, (.invokevirtual 303, 8, 0, 0, 0, [], [])), (8, (.ldc2_w 358, 11, 0, 0, 1476, [], [])), (11, (.lcmp, 12, 0, 0, 0, [], [])), (12, (.ifCond .ne 21, 15, 33, 0, 0, [], [])), (15, (.aload_n 0, 16, 0, 0, 0, [], [])), (16, (.iconst 1, 17, 0, 1, 0, [], [])), (17, (.invokevirtual 299, 20, 0, 0, 0, [], [])), (20, (.aload_n 0, 21, 0, 0, 0, [], [])), (21, (.invokevirtual 355, 24, 0, 0, 0, [], [])), (24, (.aload_n 0, 25, 0, 0, 0, [], [])), (25, (.bipush (-21), 27, 0, (-21), 0, [], [])), (27, (.invokevirtual 335, 30, 0, 0, 0, [], [])), (30, (.goto (-26), 33, 4, 0, 0, [], []))],
  [(33, (.return_, 34, 0, 0, 0, [], []))]]
noncomputable abbrev zT_245 : zT := (12, zI_245, 0, 1) -- X12_all
noncomputable def zI_246 : List (List (Nat × zE)) := [[(0, (.aload_n 0, 1, 0, 0, 0, [], [])), (1, (.getfield 285, 4, 0, 0, 0, [], [])), (4, (.ifCond .eq 4, 7, 8, 0, 0, [], [])), (7, (.return_, 8, 0, 0, 0, [], [])), (8, (.aload_n 0, 9, 0, 0, 0, [], [])), (9, (.invokevirtual 360, 12, 0, 0, 0, [], [])), (12, (.aload_n 0, 13, 0, 0, 0, [], [true])), (13, (.invokevirtual 303, 16, 0, 0, 0, [], [])), (16, (.ldc2_w 363, 19, 0, 0, 498, [], [])), (19, (.lcmp, 20, 0, 0, 0, [], [])), (20, (.ifCond .ne 21, 23, 41, 0, 0, [], [])), (23, (.aload_n 0, 24, 0, 0, 0, [], [])), (24, (.iconst 1, 25, 0, 1, 0, [], [])), (25, (.invokevirtual 299, 28, 0, 0, 0, [], [])), (28, (.aload_n 0, 29, 0, 0, 0, [], [])), (29, (.invokevirtual 360, 32, 0, 0, 0, [], []))],
  [(32, (.aload_n 0, 33, 0, 0, 0, [], [])), (33, (.bipush (-22), 35, 0, (-22), 0, [], [])), (35, (.invokevirtual 335, 38, 0, 0, 0, [], [])), (38, (.goto (-26), 41, 12, 0, 0, [], [])), (41, (.return_, 42, 0, 0, 0, [], []))]]
noncomputable abbrev zT_246 : zT := (12, zI_246, 0, 1) -- X12_condition
noncomputable def zI_247 : List (List (Nat × zE)) := [[(0, (.aload_n 0, 1, 0, 0, 0, [], [])), (1, (.invokevirtual 365, 4, 0, 0, 0, [], [])), (4, (.istore_n 1, 5, 0, 0, 0, [], [])), (5, (.aload_n 0, 6, 0, 0, 0, [], [])), (6, (.iload_n 1, 7, 0, 0, 0, [], [])), (7, (.ifCond .lt 18, 10, 25, 0, 0, [], [])), (10, (.aload_n 0, 11, 0, 0, 0, [], [])), (11, (.getfield 7, 14, 0, 0, 0, [], [])), (14, (.iconst 1, 15, 0, 1, 0, [], [])), (15, (.iaload, 16, 2, 0, 0, [], [])), (16, (.bipush 8, 18, 0, 8, 0, [], [])), (18, (.if_icmp .ge 7, 21, 25, 0, 0, [], [])), (21, (.iconst 1, 22, 0, 1, 0, [], [])), (22, (.goto 4, 25, 26, 0, 0, [], [])), (25, (.iconst 0, 26, 0, 0, 0, [], [true, true, false, false, false, false, false])), (26, (.invokevirtual 299, 29, 0, 0, 0, [], [true, true, false, false, false, false, false])), (29, (.aload_n 0, 30, 0, 0, 0, [], [])), (30, (.invokevirtual 303, 33, 0, 0, 0, [], []))],
  [(33, (.ldc2_w 368, 36, 0, 0, 294, [], [])), (36, (.lcmp, 37, 0, 0, 0, [], [])), (37, (.ifCond .ne 12, 40, 49, 0, 0, [], [])), (40, (.aload_n 0, 41, 0, 0, 0, [], [])), (41, (.iconst 1, 42, 0, 1, 0, [], [])), (42, (.invokevirtual 299, 45, 0, 0, 0, [], [])), (45, (.aload_n 0, 46, 0, 0, 0, [], [])), (46, (.invokevirtual 349, 49, 0, 0, 0, [], [])), (49, (.aload_n 0, 50, 0, 0, 0, [], [true, true, false, false, false, false, false])), (50, (.invokevirtual 303, 53, 0, 0, 0, [], [])), (53, (.lstore_n 2, 54, 0, 0, 0, [], [])), (54, (.lload_n 2, 55, 0, 0, 0, [], [])), (55, (.ldc2_w 370, 58, 0, 0, 441925, [], [])), (58, (.lcmp, 59, 0, 0, 0, [], [])), (59, (.ifCond .ne 7, 62, 66, 0, 0, [], [])), (62, (.iconst 0, 63, 0, 0, 0, [], [])), (63, (.goto 28, 66, 91, 0, 0, [], []))],
  [(66, (.lload_n 2, 67, 0, 0, 0, [], [])), (67, (.ldc2_w 372, 70, 0, 0, 398963, [], [])), (70, (.lcmp, 71, 0, 0, 0, [], [])), (71, (.ifCond .ne 7, 74, 78, 0, 0, [], [])), (74, (.iconst 1, 75, 0, 1, 0, [], [])), (75, (.goto 16, 78, 91, 0, 0, [], [])), (78, (.lload_n 2, 79, 0, 0, 0, [], [])), (79, (.ldc2_w 374, 82, 0, 0, 3764, [], [])), (82, (.lcmp, 83, 0, 0, 0, [], [])), (83, (.ifCond .ne 7, 86, 90, 0, 0, [], [])), (86, (.iconst 2, 87, 0, 2, 0, [], [])), (87, (.goto 4, 90, 91, 0, 0, [], [])), (90, (.iconst (-1), 91, 0, (-1), 0, [], [])), (91, (.istore 4, 93, 0, 0, 0, [], [true, true, false, false, false, false, false])), (93, (.aload_n 0, 94, 0, 0, 0, [], [])), (94, (.iload 4, 96, 0, 0, 0, [], []))],
  [(96, (.ifCond .lt 7, 99, 103, 0, 0, [], [])), (99, (.iconst 1, 100, 0, 1, 0, [], [])), (100, (.goto 4, 103, 104, 0, 0, [], [])), (103, (.iconst 0, 104, 0, 0, 0, [], [])), (104, (.invokevirtual 299, 107, 0, 0, 0, [], [true, true, false, false, true, false, false])), (107, (.aload_n 0, 108, 0, 0, 0, [], [])), (108, (.iconst 0, 109, 0, 0, 0, [], [])), (109, (.putfield 296, 112, 0, 0, 0, [], [])), (112, (.iload 4, 114, 0, 0, 0, [], [])), (114, (.ifCond .lt 23, 117, 137, 0, 0, [], [])), (117, (.iload 4, 119, 0, 0, 0, [], [])), (119, (.iconst 2, 120, 0, 2, 0, [], [])), (120, (.if_icmp .eq 17, 123, 137, 0, 0, [], [])), (123, (.aload_n 0, 124, 0, 0, 0, [], [])), (124, (.getfield 285, 127, 0, 0, 0, [], [])), (127, (.ifCond .ne 10, 130, 137, 0, 0, [], []))],
  [(130, (.aload_n 0, 131, 0, 0, 0, [], [])), (131, (.sipush 999, 134, 0, 999, 0, [], [])), (134, (.invokevirtual 338, 137, 0, 0, 0, [], [])), (137, (.aload_n 0, 138, 0, 0, 0, [], [true, true, false, false, true, false, false])), (138, (.getfield 296, 141, 0, 0, 0, [], [])), (141, (.istore 5, 143, 0, 0, 0, [], [])), (143, (.aload_n 0, 144, 0, 0, 0, [], [])), (144, (.aload_n 0, 145, 0, 0, 0, [], [])), (145, (.getfield 285, 148, 0, 0, 0, [], [])), (148, (.ifCond .ne 20, 151, 168, 0, 0, [], [])), (151, (.aload_n 0, 152, 0, 0, 0, [], [])), (152, (.aload_n 0, 153, 0, 0, 0, [], [])), (153, (.getfield 273, 156, 0, 0, 0, [], [])), (156, (.invokevirtual 276, 159, 0, 0, 0, [], [])), (159, (.bipush 59, 161, 0, 59, 0, [], []))],
  [(161, (.if_icmp .ne 7, 164, 168, 0, 0, [], [])), (164, (.iconst 1, 165, 0, 1, 0, [], [])), (165, (.goto 4, 168, 169, 0, 0, [], [])), (168, (.iconst 0, 169, 0, 0, 0, [], [true, true, false, false, true, true, false])), (169, (.invokevirtual 299, 172, 0, 0, 0, [], [true, true, false, false, true, true, false])), (172, (.aload_n 0, 173, 0, 0, 0, [], [])), (173, (.getfield 285, 176, 0, 0, 0, [], [])), (176, (.ifCond .ne 71, 179, 247, 0, 0, [], [])), (179, (.bipush 88, 181, 0, 88, 0, [], [])), (181, (.iconst 4, 182, 0, 4, 0, [], [])), (182, (.aload_n 0, 183, 0, 0, 0, [], [])), (183, (.getfield 7, 186, 0, 0, 0, [], [])), (186, (.iconst 1, 187, 0, 1, 0, [], [])), (187, (.iaload, 188, 2, 0, 0, [], [])), (188, (.imul, 189, 0, 0, 0, [], [])), (189, (.iadd, 190, 0, 0, 0, [], [])), (190, (.istore 6, 192, 0, 0, 0, [], []))],
  [(192, (.aload_n 0, 193, 0, 0, 0, [], [])), (193, (.getfield 7, 196, 0, 0, 0, [], [])), (196, (.iload 6, 198, 0, 0, 0, [], [])), (198, (.iconst 0, 199, 0, 0, 0, [], [])), (199, (.iadd, 200, 0, 0, 0, [], [])), (200, (.iload_n 1, 201, 0, 0, 0, [], [])), (201, (.iastore, 202, 0, 0, 0, [], [])), (202, (.aload_n 0, 203, 0, 0, 0, [], [])), (203, (.getfield 7, 206, 0, 0, 0, [], [])), (206, (.iload 6, 208, 0, 0, 0, [], [])), (208, (.iconst 1, 209, 0, 1, 0, [], [])), (209, (.iadd, 210, 0, 0, 0, [], [])), (210, (.iload 4, 212, 0, 0, 0, [], [])), (212, (.iastore, 213, 0, 0, 0, [], [])), (213, (.aload_n 0, 214, 0, 0, 0, [], [])), (214, (.getfield 7, 217, 0, 0, 0, [], [])), (217, (.iload 6, 219, 0, 0, 0, [], [])), (219, (.iconst 2, 220, 0, 2, 0, [], [])), (220, (.iadd, 221, 0, 0, 0, [], [])), (221, (.iload 5, 223, 0, 0, 0, [], [])), (223, (.iastore, 224, 0, 0, 0, [], []))],
  [(224, (.aload_n 0, 225, 0, 0, 0, [], [])), (225, (.getfield 7, 228, 0, 0, 0, [], [])), (228, (.iload 6, 230, 0, 0, 0, [], [])), (230, (.iconst 3, 231, 0, 3, 0, [], [])), (231, (.iadd, 232, 0, 0, 0, [], [])), (232, (.aload_n 0, 233, 0, 0, 0, [], [])), (233, (.getfield 329, 236, 0, 0, 0, [], [])), (236, (.iastore, 237, 0, 0, 0, [], [])), (237, (.aload_n 0, 238, 0, 0, 0, [], [])), (238, (.getfield 7, 241, 0, 0, 0, [], [])), (241, (.iconst 1, 242, 0, 1, 0, [], [])), (242, (.dup2, 243, 0, 0, 0, [], [])), (243, (.iaload, 244, 2, 0, 0, [], [])), (244, (.iconst 1, 245, 0, 1, 0, [], [])), (245, (.iadd, 246, 0, 0, 0, [], [])), (246, (.iastore, 247, 2, 0, 0, [], [])), (247, (.return_, 248, 0, 0, 0, [], []))]]
noncomputable abbrev zT_247 : zT := (12, zI_247, 0, 7) -- X12_rule
noncomputable def zI_248 : List (List (Nat × zE)) := [[(0, (.aload_n 0, 1, 0, 0, 0, [], [])), (1, (.invokevirtual 168, 4, 0, 0, 0, [], [])), (4, (.aload_n 0, 5, 0, 0, 0, [], [])), (5, (.getfield 7, 8, 0, 0, 0, [], [])), (8, (.iconst 1, 9, 0, 1, 0, [], [])), (9, (.iconst 0, 10, 0, 0, 0, [], [])), (10, (.iastore, 11, 2, 0, 0, [], [])), (11, (.aload_n 0, 12, 0, 0, 0, [], [])), (12, (.iconst 0, 13, 0, 0, 0, [], [])), (13, (.putfield 329, 16, 0, 0, 0, [], [])), (16, (.aload_n 0, 17, 0, 0, 0, [], [])), (17, (.iconst 0, 18, 0, 0, 0, [], [])), (18, (.putfield 346, 21, 0, 0, 0, [], [])), (21, (.aload_n 0, 22, 0, 0, 0, [], [])), (22, (.iconst 0, 23, 0, 0, 0, [], [])), (23, (.putfield 270, 26, 0, 0, 0, [], [])), (26, (.aload_n 0, 27, 0, 0, 0, [], [])), (27, (.iconst 0, 28, 0, 0, 0, [], [])), (28, (.putfield 285, 31, 0, 0, 0, [], [])), (31, (.aload_n 0, 32, 0, 0, 0, [], []))],
  [(32, (.invokevirtual 289, 35, 0, 0, 0, [], [])), (35, (.aload_n 0, 36, 0, 0, 0, [], [true])), (36, (.getfield 285, 39, 0, 0, 0, [], [])), (39, (.ifCond .ne 21, 42, 60, 0, 0, [], [])), (42, (.aload_n 0, 43, 0, 0, 0, [], [])), (43, (.getfield 273, 46, 0, 0, 0, [], [])), (46, (.aload_n 0, 47, 0, 0, 0, [], [])), (47, (.getfield 257, 50, 0, 0, 0, [], [])), (50, (.if_icmp .ge 10, 53, 60, 0, 0, [], [])), (53, (.aload_n 0, 54, 0, 0, 0, [], [])), (54, (.invokevirtual 376, 57, 0, 0, 0, [], [])), (57, (.goto (-22), 60, 35, 0, 0, [], [])), (60, (.aload_n 0, 61, 0, 0, 0, [], [true])), (61, (.iconst 0, 62, 0, 0, 0, [], [])), (62, (.putfield 257, 65, 0, 0, 0, [], []))],
  [(65, (.aload_n 0, 66, 0, 0, 0, [], [])), (66, (.getfield 285, 69, 0, 0, 0, [], [])), (69, (.ifCond .eq 15, 72, 84, 0, 0, [], [])), (72, (.aload_n 0, 73, 0, 0, 0, [], [])), (73, (.invokevirtual 171, 76, 0, 0, 0, [], [])), (76, (.bipush (-100), 78, 0, (-100), 0, [], [])), (78, (.aload_n 0, 79, 0, 0, 0, [], [])), (79, (.getfield 273, 82, 0, 0, 0, [], [])), (82, (.isub, 83, 0, 0, 0, [], [])), (83, (.ireturn, 84, 0, 0, 0, [], [])), (84, (.aload_n 0, 85, 0, 0, 0, [], [])), (85, (.getfield 7, 88, 0, 0, 0, [], [])), (88, (.iconst 1, 89, 0, 1, 0, [], [])), (89, (.iaload, 90, 2, 0, 0, [], [])), (90, (.ireturn, 91, 0, 0, 0, [], []))]]
noncomputable abbrev zT_248 : zT := (12, zI_248, 1, 1) -- X12_rules
noncomputable def zI_249 : List (List (Nat × zE)) := [[(0, (.iload_n 0, 1, 0, 0, 0, [], [])), (1, (.i2l, 2, 0, 0, 0, [], [])), (2, (.lconst 0, 3, 0, 0, 0, [], [])), (3, (.ldc2_w 204, 6, 0, 0, 3, [], [])), (6, (.invokestatic 67, 9, 0, 0, 0, [], [])), (9, (.ireturn, 10, 0, 0, 0, [], []))]]
noncomputable abbrev zT_249 : zT := (12, zI_249, 3, 1) -- X12_isOne
noncomputable def zI_250 : List (List (Nat × zE)) := [[(0, (.iload_n 1, 1, 0, 0, 0, [], [])), (1, (.invokestatic 379, 4, 0, 0, 0, [], [])), (4, (.ifCond .eq 27, 7, 31, 0, 0, [], [])), (7, (.iload_n 2, 8, 0, 0, 0, [], [])), (8, (.i2l, 9, 0, 0, 0, [], [])), (9, (.ldc2_w 382, 12, 0, 0, (-1), [], [])), (12, (.ldc2_w 222, 15, 0, 0, 4, [], [])), (15, (.invokestatic 67, 18, 0, 0, 0, [], [])), (18, (.ifCond .eq 13, 21, 31, 0, 0, [], [])), (21, (.iload_n 2, 22, 0, 0, 0, [], [])), (22, (.ifCond .lt 11, 25, 33, 0, 0, [], [])), (25, (.iload_n 3, 26, 0, 0, 0, [], [])), (26, (.bipush 40, 28, 0, 40, 0, [], [])), (28, (.if_icmp .le 5, 31, 33, 0, 0, [], [])), (31, (.iconst (-1), 32, 0, (-1), 0, [], []))],
  [(32, (.ireturn, 33, 0, 0, 0, [], [])), (33, (.iload_n 2, 34, 0, 0, 0, [], [true, true, true, true, false])), (34, (.ifCond .lt 10, 37, 44, 0, 0, [], [])), (37, (.iload_n 3, 38, 0, 0, 0, [], [])), (38, (.ifCond .ge 6, 41, 44, 0, 0, [], [])), (41, (.bipush (-14), 43, 0, (-14), 0, [], [])), (43, (.ireturn, 44, 0, 0, 0, [], [])), (44, (.aload_n 0, 45, 0, 0, 0, [], [true, true, true, true, false])), (45, (.getfield 46, 48, 0, 0, 0, [], [])), (48, (.iload_n 1, 49, 0, 0, 0, [], [])), (49, (.iload_n 2, 50, 0, 0, 0, [], [])), (50, (.iastore, 51, 0, 0, 0, [], [])), (51, (.aload_n 0, 52, 0, 0, 0, [], [])), (52, (.getfield 49, 55, 0, 0, 0, [], [])), (55, (.iload_n 1, 56, 0, 0, 0, [], [])), (56, (.iload_n 2, 57, 0, 0, 0, [], [])), (57, (.ifCond .ge 7, 60, 64, 0, 0, [], [])), (60, (.iconst 0, 61, 0, 0, 0, [], [])), (61, (.goto 4, 64, 65, 0, 0, [], []))],
  [(64, (.iload_n 3, 65, 0, 0, 0, [], [])), (65, (.iastore, 66, 0, 0, 0, [], [])), (66, (.iconst 0, 67, 0, 0, 0, [], [])), (67, (.istore 4, 69, 0, 0, 0, [], [])), (69, (.iload 4, 71, 0, 0, 0, [], [true, true, false, false, true])), (71, (.bipush 40, 73, 0, 40, 0, [], [])), (73, (.if_icmp .ge 22, 76, 95, 0, 0, [], [])), (76, (.aload_n 0, 77, 0, 0, 0, [], [])), (77, (.getfield 52, 80, 0, 0, 0, [], [])), (80, (.bipush 40, 82, 0, 40, 0, [], [])), (82, (.iload_n 1, 83, 0, 0, 0, [], [])), (83, (.imul, 84, 0, 0, 0, [], [])), (84, (.iload 4, 86, 0, 0, 0, [], [])), (86, (.iadd, 87, 0, 0, 0, [], [])), (87, (.iconst 0, 88, 0, 0, 0, [], [])), (88, (.iastore, 89, 0, 0, 0, [], [])), (89, (.iinc 4 1, 92, 0, 1, 0, [], [])), (92, (.goto (-23), 95, 69, 0, 0, [], [])), (95, (.iconst 1, 96, 0, 1, 0, [], []))],
  [(96, (.ireturn, 97, 0, 0, 0, [], []))]]
noncomputable abbrev zT_250 : zT := (12, zI_250, 1, 5) -- X12_sheet
noncomputable def zI_251 : List (List (Nat × zE)) := [[(0, (.iload_n 0, 1, 0, 0, 0, [], [])), (1, (.ifCond .ne 8, 4, 9, 0, 0, [], [])), (4, (.iload_n 1, 5, 0, 0, 0, [], [])), (5, (.i2b, 6, 0, 0, 0, [], [])), (6, (.goto 31, 9, 37, 0, 0, [], [])), (9, (.iload_n 0, 10, 0, 0, 0, [], [])), (10, (.iconst 1, 11, 0, 1, 0, [], [])), (11, (.if_icmp .ne 8, 14, 19, 0, 0, [], [])), (14, (.iload_n 1, 15, 0, 0, 0, [], [])), (15, (.i2s, 16, 0, 0, 0, [], [])), (16, (.goto 21, 19, 37, 0, 0, [], [])), (19, (.iload_n 0, 20, 0, 0, 0, [], [])), (20, (.iconst 4, 21, 0, 4, 0, [], [])), (21, (.if_icmp .ne 15, 24, 36, 0, 0, [], [])), (24, (.iload_n 1, 25, 0, 0, 0, [], [])), (25, (.ifCond .ne 7, 28, 32, 0, 0, [], [])), (28, (.iconst 0, 29, 0, 0, 0, [], [])), (29, (.goto 8, 32, 37, 0, 0, [], []))],
  [(32, (.iconst 1, 33, 0, 1, 0, [], [])), (33, (.goto 4, 36, 37, 0, 0, [], [])), (36, (.iload_n 1, 37, 0, 0, 0, [], [])), (37, (.ireturn, 38, 0, 0, 0, [], []))]]
noncomputable abbrev zT_251 : zT := (12, zI_251, 1, 2) -- X12_narrowed
noncomputable def zI_252 : List (List (Nat × zE)) := [[(0, (.iload_n 1, 1, 0, 0, 0, [], [])), (1, (.invokestatic 379, 4, 0, 0, 0, [], [])), (4, (.ifCond .ne 5, 7, 9, 0, 0, [], [])), (7, (.iconst (-1), 8, 0, (-1), 0, [], [])), (8, (.ireturn, 9, 0, 0, 0, [], [])), (9, (.aload_n 0, 10, 0, 0, 0, [], [])), (10, (.getfield 46, 13, 0, 0, 0, [], [])), (13, (.iload_n 1, 14, 0, 0, 0, [], [])), (14, (.iaload, 15, 0, 0, 0, [], [])), (15, (.ifCond .ge 6, 18, 21, 0, 0, [], [])), (18, (.bipush (-11), 20, 0, (-11), 0, [], [])), (20, (.ireturn, 21, 0, 0, 0, [], [])), (21, (.iload_n 2, 22, 0, 0, 0, [], [])), (22, (.i2l, 23, 0, 0, 0, [], [])), (23, (.lconst 0, 24, 0, 0, 0, [], [])), (24, (.aload_n 0, 25, 0, 0, 0, [], [])), (25, (.getfield 49, 28, 0, 0, 0, [], [])), (28, (.iload_n 1, 29, 0, 0, 0, [], [])), (29, (.iaload, 30, 0, 0, 0, [], [])), (30, (.iconst 1, 31, 0, 1, 0, [], [])), (31, (.isub, 32, 0, 0, 0, [], []))],
  [(32, (.i2l, 33, 0, 0, 0, [], [])), (33, (.invokestatic 67, 36, 0, 0, 0, [], [])), (36, (.ifCond .ne 6, 39, 42, 0, 0, [], [])), (39, (.bipush (-12), 41, 0, (-12), 0, [], [])), (41, (.ireturn, 42, 0, 0, 0, [], [])), (42, (.aload_n 0, 43, 0, 0, 0, [], [])), (43, (.getfield 52, 46, 0, 0, 0, [], [])), (46, (.bipush 40, 48, 0, 40, 0, [], [])), (48, (.iload_n 1, 49, 0, 0, 0, [], [])), (49, (.imul, 50, 0, 0, 0, [], [])), (50, (.iload_n 2, 51, 0, 0, 0, [], [])), (51, (.iadd, 52, 0, 0, 0, [], [])), (52, (.aload_n 0, 53, 0, 0, 0, [], [])), (53, (.getfield 46, 56, 0, 0, 0, [], [])), (56, (.iload_n 1, 57, 0, 0, 0, [], [])), (57, (.iaload, 58, 0, 0, 0, [], [])), (58, (.iload_n 3, 59, 0, 0, 0, [], [])), (59, (.invokestatic 384, 62, 0, 0, 0, [], [])), (62, (.iastore, 63, 0, 0, 0, [], [])), (63, (.iconst 1, 64, 0, 1, 0, [], []))],
  [(64, (.ireturn, 65, 0, 0, 0, [], []))]]
noncomputable abbrev zT_252 : zT := (12, zI_252, 1, 4) -- X12_write
noncomputable def zI_253 : List (List (Nat × zE)) := [[(0, (.aload_n 0, 1, 0, 0, 0, [], [])), (1, (.getfield 46, 4, 0, 0, 0, [], [])), (4, (.iload_n 1, 5, 0, 0, 0, [], [])), (5, (.iaload, 6, 0, 0, 0, [], [])), (6, (.ifCond .ge 8, 9, 14, 0, 0, [], [])), (9, (.bipush (-11), 11, 0, (-11), 0, [], [])), (11, (.goto 19, 14, 30, 0, 0, [], [])), (14, (.aload_n 0, 15, 0, 0, 0, [], [])), (15, (.getfield 46, 18, 0, 0, 0, [], [])), (18, (.iload_n 1, 19, 0, 0, 0, [], [])), (19, (.iaload, 20, 0, 0, 0, [], [])), (20, (.iload_n 2, 21, 0, 0, 0, [], [])), (21, (.if_icmp .eq 8, 24, 29, 0, 0, [], [])), (24, (.bipush (-13), 26, 0, (-13), 0, [], [])), (26, (.goto 4, 29, 30, 0, 0, [], [])), (29, (.iconst 0, 30, 0, 0, 0, [], [])), (30, (.ireturn, 31, 0, 0, 0, [], []))]]
noncomputable abbrev zT_253 : zT := (12, zI_253, 1, 3) -- X12_wrong
noncomputable def zI_254 : List (List (Nat × zE)) := [[(0, (.iload_n 1, 1, 0, 0, 0, [], [])), (1, (.invokestatic 379, 4, 0, 0, 0, [], [])), (4, (.ifCond .eq 15, 7, 19, 0, 0, [], [])), (7, (.iload_n 2, 8, 0, 0, 0, [], [])), (8, (.i2l, 9, 0, 0, 0, [], [])), (9, (.lconst 0, 10, 0, 0, 0, [], [])), (10, (.ldc2_w 222, 13, 0, 0, 4, [], [])), (13, (.invokestatic 67, 16, 0, 0, 0, [], [])), (16, (.ifCond .ne 5, 19, 21, 0, 0, [], [])), (19, (.iconst (-1), 20, 0, (-1), 0, [], [])), (20, (.ireturn, 21, 0, 0, 0, [], [])), (21, (.aload_n 0, 22, 0, 0, 0, [], [])), (22, (.iload_n 1, 23, 0, 0, 0, [], [])), (23, (.iload_n 2, 24, 0, 0, 0, [], [])), (24, (.invokevirtual 387, 27, 0, 0, 0, [], [])), (27, (.istore 4, 29, 0, 0, 0, [], [])), (29, (.iload 4, 31, 0, 0, 0, [], [])), (31, (.ifCond .eq 8, 34, 39, 0, 0, [], []))],
  [(34, (.iload 4, 36, 0, 0, 0, [], [])), (36, (.goto 37, 39, 73, 0, 0, [], [])), (39, (.iload_n 3, 40, 0, 0, 0, [], [])), (40, (.i2l, 41, 0, 0, 0, [], [])), (41, (.lconst 0, 42, 0, 0, 0, [], [])), (42, (.aload_n 0, 43, 0, 0, 0, [], [])), (43, (.getfield 49, 46, 0, 0, 0, [], [])), (46, (.iload_n 1, 47, 0, 0, 0, [], [])), (47, (.iaload, 48, 0, 0, 0, [], [])), (48, (.iconst 1, 49, 0, 1, 0, [], [])), (49, (.isub, 50, 0, 0, 0, [], [])), (50, (.i2l, 51, 0, 0, 0, [], [])), (51, (.invokestatic 67, 54, 0, 0, 0, [], [])), (54, (.ifCond .eq 17, 57, 71, 0, 0, [], [])), (57, (.aload_n 0, 58, 0, 0, 0, [], [])), (58, (.getfield 52, 61, 0, 0, 0, [], [])), (61, (.bipush 40, 63, 0, 40, 0, [], [])), (63, (.iload_n 1, 64, 0, 0, 0, [], []))],
  [(64, (.imul, 65, 0, 0, 0, [], [])), (65, (.iload_n 3, 66, 0, 0, 0, [], [])), (66, (.iadd, 67, 0, 0, 0, [], [])), (67, (.iaload, 68, 0, 0, 0, [], [])), (68, (.goto 5, 71, 73, 0, 0, [], [])), (71, (.bipush (-12), 73, 0, (-12), 0, [], [])), (73, (.ireturn, 74, 0, 0, 0, [], []))]]
noncomputable abbrev zT_254 : zT := (12, zI_254, 1, 5) -- X12_item
noncomputable def zI_255 : List (List (Nat × zE)) := [[(0, (.aload_n 0, 1, 0, 0, 0, [], [])), (1, (.iload_n 1, 2, 0, 0, 0, [], [])), (2, (.invokevirtual 148, 5, 0, 0, 0, [], [])), (5, (.ifCond .eq 23, 8, 28, 0, 0, [], [])), (8, (.iload_n 2, 9, 0, 0, 0, [], [])), (9, (.invokestatic 379, 12, 0, 0, 0, [], [])), (12, (.ifCond .eq 16, 15, 28, 0, 0, [], [])), (15, (.iload 4, 17, 0, 0, 0, [], [])), (17, (.i2l, 18, 0, 0, 0, [], [])), (18, (.lconst 0, 19, 0, 0, 0, [], [])), (19, (.ldc2_w 390, 22, 0, 0, 20, [], [])), (22, (.invokestatic 67, 25, 0, 0, 0, [], [])), (25, (.ifCond .ne 5, 28, 30, 0, 0, [], [])), (28, (.iconst (-1), 29, 0, (-1), 0, [], [])), (29, (.ireturn, 30, 0, 0, 0, [], [])), (30, (.aload_n 0, 31, 0, 0, 0, [], [])), (31, (.iload_n 2, 32, 0, 0, 0, [], []))],
  [(32, (.iconst 0, 33, 0, 0, 0, [], [])), (33, (.invokevirtual 387, 36, 0, 0, 0, [], [])), (36, (.istore 5, 38, 0, 0, 0, [], [])), (38, (.iload 5, 40, 0, 0, 0, [], [])), (40, (.ifCond .eq 6, 43, 46, 0, 0, [], [])), (43, (.iload 5, 45, 0, 0, 0, [], [])), (45, (.ireturn, 46, 0, 0, 0, [], [])), (46, (.iconst 0, 47, 0, 0, 0, [], [])), (47, (.istore 6, 49, 0, 0, 0, [], [])), (49, (.iconst 0, 50, 0, 0, 0, [], [])), (50, (.istore 7, 52, 0, 0, 0, [], [])), (52, (.iload 7, 54, 0, 0, 0, [], [true, true, true, true, true, false, true, true, false])), (54, (.iload 4, 56, 0, 0, 0, [], [])), (56, (.if_icmp .ge 78, 59, 134, 0, 0, [], [])), (59, (.iload_n 3, 60, 0, 0, 0, [], [])), (60, (.i2l, 61, 0, 0, 0, [], [])), (61, (.iload 7, 63, 0, 0, 0, [], [])), (63, (.i2l, 64, 0, 0, 0, [], []))],
  [(64, (.ladd, 65, 0, 0, 0, [], [])), (65, (.lconst 0, 66, 0, 0, 0, [], [])), (66, (.aload_n 0, 67, 0, 0, 0, [], [])), (67, (.getfield 49, 70, 0, 0, 0, [], [])), (70, (.iload_n 2, 71, 0, 0, 0, [], [])), (71, (.iaload, 72, 0, 0, 0, [], [])), (72, (.iconst 1, 73, 0, 1, 0, [], [])), (73, (.isub, 74, 0, 0, 0, [], [])), (74, (.i2l, 75, 0, 0, 0, [], [])), (75, (.invokestatic 67, 78, 0, 0, 0, [], [])), (78, (.ifCond .ne 6, 81, 84, 0, 0, [], [])), (81, (.bipush (-12), 83, 0, (-12), 0, [], [])), (83, (.ireturn, 84, 0, 0, 0, [], [])), (84, (.aload_n 0, 85, 0, 0, 0, [], [])), (85, (.iload_n 1, 86, 0, 0, 0, [], [])), (86, (.aload_n 0, 87, 0, 0, 0, [], [])), (87, (.getfield 52, 90, 0, 0, 0, [], [])), (90, (.bipush 40, 92, 0, 40, 0, [], [])), (92, (.iload_n 2, 93, 0, 0, 0, [], [])), (93, (.imul, 94, 0, 0, 0, [], [])), (94, (.iload_n 3, 95, 0, 0, 0, [], [])), (95, (.iadd, 96, 0, 0, 0, [], []))],
  [(96, (.iload 7, 98, 0, 0, 0, [], [])), (98, (.iadd, 99, 0, 0, 0, [], [])), (99, (.iaload, 100, 0, 0, 0, [], [])), (100, (.invokevirtual 392, 103, 0, 0, 0, [], [])), (103, (.istore 8, 105, 0, 0, 0, [], [])), (105, (.iload 6, 107, 0, 0, 0, [], [])), (107, (.iload 8, 109, 0, 0, 0, [], [])), (109, (.iconst (-1), 110, 0, (-1), 0, [], [])), (110, (.if_icmp .eq 10, 113, 120, 0, 0, [], [])), (113, (.iload 8, 115, 0, 0, 0, [], [])), (115, (.bipush (-4), 117, 0, (-4), 0, [], [])), (117, (.if_icmp .ne 7, 120, 124, 0, 0, [], [])), (120, (.iconst 0, 121, 0, 0, 0, [], [])), (121, (.goto 4, 124, 125, 0, 0, [], [])), (124, (.iconst 1, 125, 0, 1, 0, [], [])), (125, (.iadd, 126, 0, 0, 0, [], [])), (126, (.istore 6, 128, 0, 0, 0, [], []))],
  [(128, (.iinc 7 1, 131, 0, 1, 0, [], [])), (131, (.goto (-79), 134, 52, 0, 0, [], [])), (134, (.iload 6, 136, 0, 0, 0, [], [])), (136, (.ireturn, 137, 0, 0, 0, [], []))]]
noncomputable abbrev zT_255 : zT := (12, zI_255, 1, 9) -- X12_climbs
noncomputable def zI_256 : List (List (Nat × zE)) := [[(0, (.iload_n 1, 1, 0, 0, 0, [], [])), (1, (.invokestatic 379, 4, 0, 0, 0, [], [])), (4, (.ifCond .eq 39, 7, 43, 0, 0, [], [])), (7, (.iload_n 2, 8, 0, 0, 0, [], [])), (8, (.i2l, 9, 0, 0, 0, [], [])), (9, (.lconst 0, 10, 0, 0, 0, [], [])), (10, (.ldc2_w 151, 13, 0, 0, 2, [], [])), (13, (.invokestatic 67, 16, 0, 0, 0, [], [])), (16, (.ifCond .eq 27, 19, 43, 0, 0, [], [])), (19, (.iload_n 2, 20, 0, 0, 0, [], [])), (20, (.ifCond .ne 11, 23, 31, 0, 0, [], [])), (23, (.aload_n 0, 24, 0, 0, 0, [], [])), (24, (.iload_n 3, 25, 0, 0, 0, [], [])), (25, (.invokevirtual 84, 28, 0, 0, 0, [], [])), (28, (.ifCond .eq 15, 31, 43, 0, 0, [], [])), (31, (.iload_n 2, 32, 0, 0, 0, [], [true, true, true, true]))],
  [(32, (.iconst 1, 33, 0, 1, 0, [], [])), (33, (.if_icmp .ne 12, 36, 45, 0, 0, [], [])), (36, (.iload_n 3, 37, 0, 0, 0, [], [])), (37, (.invokestatic 379, 40, 0, 0, 0, [], [])), (40, (.ifCond .ne 5, 43, 45, 0, 0, [], [])), (43, (.iconst (-1), 44, 0, (-1), 0, [], [])), (44, (.ireturn, 45, 0, 0, 0, [], [])), (45, (.aload_n 0, 46, 0, 0, 0, [], [true, true, true, true])), (46, (.getfield 55, 49, 0, 0, 0, [], [])), (49, (.iload_n 1, 50, 0, 0, 0, [], [])), (50, (.iload_n 2, 51, 0, 0, 0, [], [])), (51, (.ifCond .ne 7, 54, 58, 0, 0, [], [])), (54, (.iconst 1, 55, 0, 1, 0, [], [])), (55, (.goto 22, 58, 77, 0, 0, [], [])), (58, (.iload_n 2, 59, 0, 0, 0, [], [])), (59, (.iconst 1, 60, 0, 1, 0, [], [])), (60, (.if_icmp .ne 16, 63, 76, 0, 0, [], [])), (63, (.aload_n 0, 64, 0, 0, 0, [], []))],
  [(64, (.getfield 46, 67, 0, 0, 0, [], [])), (67, (.iload_n 3, 68, 0, 0, 0, [], [])), (68, (.iaload, 69, 0, 0, 0, [], [])), (69, (.ifCond .lt 7, 72, 76, 0, 0, [], [])), (72, (.iconst 2, 73, 0, 2, 0, [], [])), (73, (.goto 4, 76, 77, 0, 0, [], [])), (76, (.iconst 0, 77, 0, 0, 0, [], [true, true, true, true])), (77, (.iastore, 78, 0, 0, 0, [], [true, true, true, true])), (78, (.aload_n 0, 79, 0, 0, 0, [], [])), (79, (.getfield 58, 82, 0, 0, 0, [], [])), (82, (.iload_n 1, 83, 0, 0, 0, [], [])), (83, (.iload_n 2, 84, 0, 0, 0, [], [])), (84, (.ifCond .ne 7, 87, 91, 0, 0, [], [])), (87, (.iload_n 3, 88, 0, 0, 0, [], [])), (88, (.goto 18, 91, 106, 0, 0, [], [])), (91, (.iload_n 2, 92, 0, 0, 0, [], [])), (92, (.iconst 1, 93, 0, 1, 0, [], [])), (93, (.if_icmp .ne 12, 96, 105, 0, 0, [], []))],
  [(96, (.aload_n 0, 97, 0, 0, 0, [], [])), (97, (.getfield 49, 100, 0, 0, 0, [], [])), (100, (.iload_n 3, 101, 0, 0, 0, [], [])), (101, (.iaload, 102, 0, 0, 0, [], [])), (102, (.goto 4, 105, 106, 0, 0, [], [])), (105, (.iconst 0, 106, 0, 0, 0, [], [])), (106, (.iastore, 107, 0, 0, 0, [], [true, true, true, true])), (107, (.aload_n 0, 108, 0, 0, 0, [], [])), (108, (.getfield 61, 111, 0, 0, 0, [], [])), (111, (.iload_n 1, 112, 0, 0, 0, [], [])), (112, (.iload_n 2, 113, 0, 0, 0, [], [])), (113, (.iconst 1, 114, 0, 1, 0, [], [])), (114, (.if_icmp .ne 12, 117, 126, 0, 0, [], [])), (117, (.aload_n 0, 118, 0, 0, 0, [], [])), (118, (.getfield 46, 121, 0, 0, 0, [], [])), (121, (.iload_n 3, 122, 0, 0, 0, [], [])), (122, (.iaload, 123, 0, 0, 0, [], [])), (123, (.goto 4, 126, 127, 0, 0, [], [])), (126, (.iconst 0, 127, 0, 0, 0, [], [])), (127, (.iastore, 128, 0, 0, 0, [], []))],
  [(128, (.iconst 1, 129, 0, 1, 0, [], [])), (129, (.ireturn, 130, 0, 0, 0, [], []))]]
noncomputable abbrev zT_256 : zT := (12, zI_256, 1, 4) -- X12_shelf
noncomputable def zI_257 : List (List (Nat × zE)) := [[(0, (.iload_n 1, 1, 0, 0, 0, [], [])), (1, (.invokestatic 379, 4, 0, 0, 0, [], [])), (4, (.ifCond .eq 35, 7, 39, 0, 0, [], [])), (7, (.aload_n 0, 8, 0, 0, 0, [], [])), (8, (.getfield 55, 11, 0, 0, 0, [], [])), (11, (.iload_n 1, 12, 0, 0, 0, [], [])), (12, (.iaload, 13, 0, 0, 0, [], [])), (13, (.iconst 1, 14, 0, 1, 0, [], [])), (14, (.if_icmp .ne 25, 17, 39, 0, 0, [], [])), (17, (.aload_n 0, 18, 0, 0, 0, [], [])), (18, (.aload_n 0, 19, 0, 0, 0, [], [])), (19, (.getfield 58, 22, 0, 0, 0, [], [])), (22, (.iload_n 1, 23, 0, 0, 0, [], [])), (23, (.iaload, 24, 0, 0, 0, [], [])), (24, (.invokevirtual 84, 27, 0, 0, 0, [], [])), (27, (.ifCond .eq 12, 30, 39, 0, 0, [], [])), (30, (.aload_n 0, 31, 0, 0, 0, [], [])), (31, (.getfield 58, 34, 0, 0, 0, [], []))],
  [(34, (.iload_n 1, 35, 0, 0, 0, [], [])), (35, (.iaload, 36, 0, 0, 0, [], [])), (36, (.goto 4, 39, 40, 0, 0, [], [])), (39, (.iconst (-1), 40, 0, (-1), 0, [], [])), (40, (.ireturn, 41, 0, 0, 0, [], []))]]
noncomputable abbrev zT_257 : zT := (12, zI_257, 1, 2) -- X12_onShelf
noncomputable def zI_258 : List (List (Nat × zE)) := [[(0, (.iload_n 1, 1, 0, 0, 0, [], [])), (1, (.invokestatic 379, 4, 0, 0, 0, [], [])), (4, (.ifCond .eq 29, 7, 33, 0, 0, [], [])), (7, (.iload_n 2, 8, 0, 0, 0, [], [])), (8, (.i2l, 9, 0, 0, 0, [], [])), (9, (.lconst 0, 10, 0, 0, 0, [], [])), (10, (.ldc2_w 82, 13, 0, 0, 5, [], [])), (13, (.invokestatic 67, 16, 0, 0, 0, [], [])), (16, (.ifCond .ne 19, 19, 35, 0, 0, [], [])), (19, (.iload_n 2, 20, 0, 0, 0, [], [])), (20, (.i2l, 21, 0, 0, 0, [], [])), (21, (.ldc2_w 395, 24, 0, 0, 10, [], [])), (24, (.ldc2_w 397, 27, 0, 0, 14, [], [])), (27, (.invokestatic 67, 30, 0, 0, 0, [], [])), (30, (.ifCond .ne 5, 33, 35, 0, 0, [], []))],
  [(33, (.iconst (-1), 34, 0, (-1), 0, [], [])), (34, (.ireturn, 35, 0, 0, 0, [], [])), (35, (.aload_n 0, 36, 0, 0, 0, [], [true, true, true, false, false])), (36, (.iload_n 1, 37, 0, 0, 0, [], [])), (37, (.invokevirtual 399, 40, 0, 0, 0, [], [])), (40, (.istore_n 3, 41, 0, 0, 0, [], [])), (41, (.iload_n 3, 42, 0, 0, 0, [], [])), (42, (.ifCond .ge 16, 45, 58, 0, 0, [], [])), (45, (.aload_n 0, 46, 0, 0, 0, [], [])), (46, (.getfield 55, 49, 0, 0, 0, [], [])), (49, (.iload_n 1, 50, 0, 0, 0, [], [])), (50, (.iaload, 51, 0, 0, 0, [], [])), (51, (.iconst 2, 52, 0, 2, 0, [], [])), (52, (.if_icmp .ge 6, 55, 58, 0, 0, [], [])), (55, (.bipush (-11), 57, 0, (-11), 0, [], [])), (57, (.ireturn, 58, 0, 0, 0, [], [])), (58, (.iload_n 3, 59, 0, 0, 0, [], [true, true, true, true, false])), (59, (.ifCond .lt 30, 62, 89, 0, 0, [], [])), (62, (.iload_n 2, 63, 0, 0, 0, [], [])), (63, (.bipush 6, 65, 0, 6, 0, [], []))],
  [(65, (.if_icmp .ge 20, 68, 85, 0, 0, [], [])), (68, (.aload_n 0, 69, 0, 0, 0, [], [])), (69, (.iload_n 3, 70, 0, 0, 0, [], [])), (70, (.iconst 0, 71, 0, 0, 0, [], [])), (71, (.invokevirtual 75, 74, 0, 0, 0, [], [])), (74, (.iload_n 2, 75, 0, 0, 0, [], [])), (75, (.invokestatic 102, 78, 0, 0, 0, [], [])), (78, (.ifCond .eq 7, 81, 85, 0, 0, [], [])), (81, (.iconst 1, 82, 0, 1, 0, [], [])), (82, (.goto 25, 85, 107, 0, 0, [], [])), (85, (.iconst 0, 86, 0, 0, 0, [], [])), (86, (.goto 21, 89, 107, 0, 0, [], [])), (89, (.iload_n 2, 90, 0, 0, 0, [], [])), (90, (.bipush 10, 92, 0, 10, 0, [], [])), (92, (.isub, 93, 0, 0, 0, [], [])), (93, (.aload_n 0, 94, 0, 0, 0, [], [])), (94, (.getfield 61, 97, 0, 0, 0, [], []))],
  [(97, (.iload_n 1, 98, 0, 0, 0, [], [])), (98, (.iaload, 99, 0, 0, 0, [], [])), (99, (.if_icmp .ne 7, 102, 106, 0, 0, [], [])), (102, (.iconst 1, 103, 0, 1, 0, [], [])), (103, (.goto 4, 106, 107, 0, 0, [], [])), (106, (.iconst 0, 107, 0, 0, 0, [], [])), (107, (.istore 4, 109, 0, 0, 0, [], [])), (109, (.iload 4, 111, 0, 0, 0, [], [])), (111, (.ifCond .eq 12, 114, 123, 0, 0, [], [])), (114, (.aload_n 0, 115, 0, 0, 0, [], [])), (115, (.getfield 58, 118, 0, 0, 0, [], [])), (118, (.iload_n 1, 119, 0, 0, 0, [], [])), (119, (.iaload, 120, 0, 0, 0, [], [])), (120, (.goto 5, 123, 125, 0, 0, [], [])), (123, (.bipush (-13), 125, 0, (-13), 0, [], [])), (125, (.ireturn, 126, 0, 0, 0, [], []))]]
noncomputable abbrev zT_258 : zT := (12, zI_258, 1, 5) -- X12_taken
noncomputable def zI_259 : List (List (Nat × zE)) := [[(0, (.aload_n 0, 1, 0, 0, 0, [], [])), (1, (.getfield 402, 4, 0, 0, 0, [], [])), (4, (.ifCond .ne 32, 7, 36, 0, 0, [], [])), (7, (.aload_n 0, 8, 0, 0, 0, [], [])), (8, (.getfield 405, 11, 0, 0, 0, [], [])), (11, (.bipush 30, 13, 0, 30, 0, [], [])), (13, (.if_icmp .ge 13, 16, 26, 0, 0, [], [])), (16, (.aload_n 0, 17, 0, 0, 0, [], [])), (17, (.getfield 64, 20, 0, 0, 0, [], [])), (20, (.aload_n 0, 21, 0, 0, 0, [], [])), (21, (.getfield 405, 24, 0, 0, 0, [], [])), (24, (.iload_n 1, 25, 0, 0, 0, [], [])), (25, (.iastore, 26, 0, 0, 0, [], [])), (26, (.aload_n 0, 27, 0, 0, 0, [], [])), (27, (.dup, 28, 0, 0, 0, [], [])), (28, (.getfield 405, 31, 0, 0, 0, [], [])), (31, (.iconst 1, 32, 0, 1, 0, [], []))],
  [(32, (.iadd, 33, 0, 0, 0, [], [])), (33, (.putfield 405, 36, 0, 0, 0, [], [])), (36, (.return_, 37, 0, 0, 0, [], []))]]
noncomputable abbrev zT_259 : zT := (12, zI_259, 0, 2) -- X12_runs
noncomputable def zI_260 : List (List (Nat × zE)) := [[(0, (.aload_n 0, 1, 0, 0, 0, [], [])), (1, (.getfield 408, 4, 0, 0, 0, [], [])), (4, (.iconst 1, 5, 0, 1, 0, [], [])), (5, (.if_icmp .ne 24, 8, 29, 0, 0, [], [])), (8, (.aload_n 0, 9, 0, 0, 0, [], [])), (9, (.bipush 20, 11, 0, 20, 0, [], [])), (11, (.invokevirtual 411, 14, 0, 0, 0, [], [])), (14, (.aload_n 0, 15, 0, 0, 0, [], [])), (15, (.bipush 10, 17, 0, 10, 0, [], [])), (17, (.invokevirtual 411, 20, 0, 0, 0, [], [])), (20, (.iload_n 1, 21, 0, 0, 0, [], [])), (21, (.aload_n 0, 22, 0, 0, 0, [], [])), (22, (.getfield 414, 25, 0, 0, 0, [], [])), (25, (.iadd, 26, 0, 0, 0, [], [])), (26, (.iconst 3, 27, 0, 3, 0, [], [])), (27, (.imul, 28, 0, 0, 0, [], [])), (28, (.ireturn, 29, 0, 0, 0, [], [])), (29, (.aload_n 0, 30, 0, 0, 0, [], [])), (30, (.getfield 408, 33, 0, 0, 0, [], []))],
  [(33, (.iconst 3, 34, 0, 3, 0, [], [])), (34, (.if_icmp .ne 27, 37, 61, 0, 0, [], [])), (37, (.aload_n 0, 38, 0, 0, 0, [], [])), (38, (.bipush 50, 40, 0, 50, 0, [], [])), (40, (.invokevirtual 411, 43, 0, 0, 0, [], [])), (43, (.aload_n 0, 44, 0, 0, 0, [], [])), (44, (.bipush 10, 46, 0, 10, 0, [], [])), (46, (.invokevirtual 411, 49, 0, 0, 0, [], [])), (49, (.iload_n 1, 50, 0, 0, 0, [], [])), (50, (.aload_n 0, 51, 0, 0, 0, [], [])), (51, (.getfield 414, 54, 0, 0, 0, [], [])), (54, (.iadd, 55, 0, 0, 0, [], [])), (55, (.aload_n 0, 56, 0, 0, 0, [], [])), (56, (.getfield 414, 59, 0, 0, 0, [], [])), (59, (.ixor, 60, 0, 0, 0, [], [])), (60, (.ireturn, 61, 0, 0, 0, [], [])), (61, (.aload_n 0, 62, 0, 0, 0, [], [])), (62, (.bipush 10, 64, 0, 10, 0, [], []))],
  [(64, (.invokevirtual 411, 67, 0, 0, 0, [], [])), (67, (.iload_n 1, 68, 0, 0, 0, [], [])), (68, (.aload_n 0, 69, 0, 0, 0, [], [])), (69, (.getfield 414, 72, 0, 0, 0, [], [])), (72, (.iadd, 73, 0, 0, 0, [], [])), (73, (.ireturn, 74, 0, 0, 0, [], []))]]
noncomputable abbrev zT_260 : zT := (12, zI_260, 1, 2) -- X12_sways
noncomputable def zI_261 : List (List (Nat × zE)) := [[(0, (.aload_n 0, 1, 0, 0, 0, [], [])), (1, (.getfield 408, 4, 0, 0, 0, [], [])), (4, (.iconst 2, 5, 0, 2, 0, [], [])), (5, (.if_icmp .eq 11, 8, 16, 0, 0, [], [])), (8, (.aload_n 0, 9, 0, 0, 0, [], [])), (9, (.getfield 408, 12, 0, 0, 0, [], [])), (12, (.iconst 3, 13, 0, 3, 0, [], [])), (13, (.if_icmp .ne 7, 16, 20, 0, 0, [], [])), (16, (.iconst 1, 17, 0, 1, 0, [], [true, true, false, false])), (17, (.goto 4, 20, 21, 0, 0, [], [])), (20, (.iconst 0, 21, 0, 0, 0, [], [])), (21, (.istore_n 2, 22, 0, 0, 0, [], [true, true, false, false])), (22, (.iload_n 2, 23, 0, 0, 0, [], [])), (23, (.ifCond .eq 9, 26, 32, 0, 0, [], [])), (26, (.aload_n 0, 27, 0, 0, 0, [], [])), (27, (.bipush 30, 29, 0, 30, 0, [], [])), (29, (.invokevirtual 411, 32, 0, 0, 0, [], []))],
  [(32, (.aload_n 0, 33, 0, 0, 0, [], [true, true, true, false])), (33, (.getfield 408, 36, 0, 0, 0, [], [])), (36, (.iconst 5, 37, 0, 5, 0, [], [])), (37, (.if_icmp .ne 9, 40, 46, 0, 0, [], [])), (40, (.aload_n 0, 41, 0, 0, 0, [], [])), (41, (.bipush 60, 43, 0, 60, 0, [], [])), (43, (.invokevirtual 411, 46, 0, 0, 0, [], [])), (46, (.aload_n 0, 47, 0, 0, 0, [], [true, true, true, false])), (47, (.bipush 11, 49, 0, 11, 0, [], [])), (49, (.invokevirtual 411, 52, 0, 0, 0, [], [])), (52, (.aload_n 0, 53, 0, 0, 0, [], [])), (53, (.iload_n 1, 54, 0, 0, 0, [], [])), (54, (.invokevirtual 417, 57, 0, 0, 0, [], [])), (57, (.iconst 2, 58, 0, 2, 0, [], [])), (58, (.imul, 59, 0, 0, 0, [], [])), (59, (.istore_n 3, 60, 0, 0, 0, [], [])), (60, (.iload_n 2, 61, 0, 0, 0, [], [])), (61, (.ifCond .eq 12, 64, 73, 0, 0, [], []))],
  [(64, (.iload_n 3, 65, 0, 0, 0, [], [])), (65, (.aload_n 0, 66, 0, 0, 0, [], [])), (66, (.getfield 420, 69, 0, 0, 0, [], [])), (69, (.isub, 70, 0, 0, 0, [], [])), (70, (.goto 18, 73, 88, 0, 0, [], [])), (73, (.aload_n 0, 74, 0, 0, 0, [], [])), (74, (.getfield 408, 77, 0, 0, 0, [], [])), (77, (.iconst 5, 78, 0, 5, 0, [], [])), (78, (.if_icmp .ne 9, 81, 87, 0, 0, [], [])), (81, (.iconst 0, 82, 0, 0, 0, [], [])), (82, (.iload_n 3, 83, 0, 0, 0, [], [])), (83, (.isub, 84, 0, 0, 0, [], [])), (84, (.goto 4, 87, 88, 0, 0, [], [])), (87, (.iload_n 3, 88, 0, 0, 0, [], [])), (88, (.ireturn, 89, 0, 0, 0, [], []))]]
noncomputable abbrev zT_261 : zT := (12, zI_261, 1, 4) -- X12_bends
noncomputable def zI_262 : List (List (Nat × zE)) := [[(0, (.aload_n 0, 1, 0, 0, 0, [], [])), (1, (.bipush 12, 3, 0, 12, 0, [], [])), (3, (.invokevirtual 411, 6, 0, 0, 0, [], [])), (6, (.aload_n 0, 7, 0, 0, 0, [], [])), (7, (.getfield 420, 10, 0, 0, 0, [], [])), (10, (.aload_n 0, 11, 0, 0, 0, [], [])), (11, (.getfield 414, 14, 0, 0, 0, [], [])), (14, (.if_icmp .ne 10, 17, 24, 0, 0, [], [])), (17, (.aload_n 0, 18, 0, 0, 0, [], [])), (18, (.iconst 1, 19, 0, 1, 0, [], [])), (19, (.putfield 402, 22, 0, 0, 0, [], [])), (22, (.iconst 0, 23, 0, 0, 0, [], [])), (23, (.ireturn, 24, 0, 0, 0, [], [])), (24, (.iload_n 1, 25, 0, 0, 0, [], [])), (25, (.aload_n 0, 26, 0, 0, 0, [], [])), (26, (.getfield 420, 29, 0, 0, 0, [], [])), (29, (.aload_n 0, 30, 0, 0, 0, [], [])), (30, (.getfield 414, 33, 0, 0, 0, [], []))],
  [(33, (.isub, 34, 0, 0, 0, [], [])), (34, (.idiv, 35, 0, 0, 0, [], [])), (35, (.ireturn, 36, 0, 0, 0, [], []))]]
noncomputable abbrev zT_262 : zT := (12, zI_262, 1, 2) -- X12_parts
noncomputable def zI_263 : List (List (Nat × zE)) := [[(0, (.aload_n 0, 1, 0, 0, 0, [], [])), (1, (.getfield 408, 4, 0, 0, 0, [], [])), (4, (.iconst 4, 5, 0, 4, 0, [], [])), (5, (.if_icmp .ne 17, 8, 22, 0, 0, [], [])), (8, (.aload_n 0, 9, 0, 0, 0, [], [])), (9, (.bipush 40, 11, 0, 40, 0, [], [])), (11, (.invokevirtual 411, 14, 0, 0, 0, [], [])), (14, (.aload_n 0, 15, 0, 0, 0, [], [])), (15, (.iload_n 1, 16, 0, 0, 0, [], [])), (16, (.iconst 1, 17, 0, 1, 0, [], [])), (17, (.iadd, 18, 0, 0, 0, [], [])), (18, (.invokevirtual 423, 21, 0, 0, 0, [], [])), (21, (.ireturn, 22, 0, 0, 0, [], [])), (22, (.aload_n 0, 23, 0, 0, 0, [], [])), (23, (.getfield 408, 26, 0, 0, 0, [], [])), (26, (.iconst 5, 27, 0, 5, 0, [], [])), (27, (.if_icmp .ne 45, 30, 72, 0, 0, [], [])), (30, (.aload_n 0, 31, 0, 0, 0, [], [])), (31, (.bipush 61, 33, 0, 61, 0, [], []))],
  [(33, (.invokevirtual 411, 36, 0, 0, 0, [], [])), (36, (.aload_n 0, 37, 0, 0, 0, [], [])), (37, (.bipush 40, 39, 0, 40, 0, [], [])), (39, (.invokevirtual 411, 42, 0, 0, 0, [], [])), (42, (.aload_n 0, 43, 0, 0, 0, [], [])), (43, (.iload_n 1, 44, 0, 0, 0, [], [])), (44, (.iconst 1, 45, 0, 1, 0, [], [])), (45, (.iadd, 46, 0, 0, 0, [], [])), (46, (.invokevirtual 423, 49, 0, 0, 0, [], [])), (49, (.istore_n 2, 50, 0, 0, 0, [], [])), (50, (.aload_n 0, 51, 0, 0, 0, [], [])), (51, (.getfield 402, 54, 0, 0, 0, [], [])), (54, (.ifCond .eq 7, 57, 61, 0, 0, [], [])), (57, (.iconst 0, 58, 0, 0, 0, [], [])), (58, (.goto 13, 61, 71, 0, 0, [], [])), (61, (.iload_n 2, 62, 0, 0, 0, [], [])), (62, (.aload_n 0, 63, 0, 0, 0, [], [])), (63, (.aload_n 0, 64, 0, 0, 0, [], []))],
  [(64, (.getfield 420, 67, 0, 0, 0, [], [])), (67, (.invokevirtual 417, 70, 0, 0, 0, [], [])), (70, (.iadd, 71, 0, 0, 0, [], [])), (71, (.ireturn, 72, 0, 0, 0, [], [])), (72, (.aload_n 0, 73, 0, 0, 0, [], [])), (73, (.iload_n 1, 74, 0, 0, 0, [], [])), (74, (.invokevirtual 423, 77, 0, 0, 0, [], [])), (77, (.ireturn, 78, 0, 0, 0, [], []))]]
noncomputable abbrev zT_263 : zT := (12, zI_263, 1, 3) -- X12_shares
noncomputable def zI_264 : List (List (Nat × zE)) := [[(0, (.aload_n 0, 1, 0, 0, 0, [], [])), (1, (.getfield 408, 4, 0, 0, 0, [], [])), (4, (.iconst 3, 5, 0, 3, 0, [], [])), (5, (.if_icmp .ne 9, 8, 14, 0, 0, [], [])), (8, (.aload_n 0, 9, 0, 0, 0, [], [])), (9, (.bipush 51, 11, 0, 51, 0, [], [])), (11, (.invokevirtual 411, 14, 0, 0, 0, [], [])), (14, (.aload_n 0, 15, 0, 0, 0, [], [true, true, false])), (15, (.bipush 13, 17, 0, 13, 0, [], [])), (17, (.invokevirtual 411, 20, 0, 0, 0, [], [])), (20, (.aload_n 0, 21, 0, 0, 0, [], [])), (21, (.iload_n 1, 22, 0, 0, 0, [], [])), (22, (.invokevirtual 426, 25, 0, 0, 0, [], [])), (25, (.aload_n 0, 26, 0, 0, 0, [], [])), (26, (.getfield 420, 29, 0, 0, 0, [], [])), (29, (.ixor, 30, 0, 0, 0, [], [])), (30, (.istore_n 2, 31, 0, 0, 0, [], [])), (31, (.aload_n 0, 32, 0, 0, 0, [], []))],
  [(32, (.getfield 408, 35, 0, 0, 0, [], [])), (35, (.iconst 3, 36, 0, 3, 0, [], [])), (36, (.if_icmp .ne 16, 39, 52, 0, 0, [], [])), (39, (.iload_n 2, 40, 0, 0, 0, [], [])), (40, (.aload_n 0, 41, 0, 0, 0, [], [])), (41, (.aload_n 0, 42, 0, 0, 0, [], [])), (42, (.getfield 414, 45, 0, 0, 0, [], [])), (45, (.invokevirtual 429, 48, 0, 0, 0, [], [])), (48, (.iadd, 49, 0, 0, 0, [], [])), (49, (.goto 4, 52, 53, 0, 0, [], [])), (52, (.iload_n 2, 53, 0, 0, 0, [], [])), (53, (.ireturn, 54, 0, 0, 0, [], []))]]
noncomputable abbrev zT_264 : zT := (12, zI_264, 1, 3) -- X12_tells
noncomputable def zI_265 : List (List (Nat × zE)) := [[(0, (.aload_n 0, 1, 0, 0, 0, [], [])), (1, (.iconst 0, 2, 0, 0, 0, [], [])), (2, (.putfield 405, 5, 0, 0, 0, [], [])), (5, (.aload_n 0, 6, 0, 0, 0, [], [])), (6, (.iconst 0, 7, 0, 0, 0, [], [])), (7, (.putfield 402, 10, 0, 0, 0, [], [])), (10, (.aload_n 0, 11, 0, 0, 0, [], [])), (11, (.aload_n 0, 12, 0, 0, 0, [], [])), (12, (.iload_n 1, 13, 0, 0, 0, [], [])), (13, (.invokevirtual 399, 16, 0, 0, 0, [], [])), (16, (.putfield 414, 19, 0, 0, 0, [], [])), (19, (.aload_n 0, 20, 0, 0, 0, [], [])), (20, (.getfield 414, 23, 0, 0, 0, [], [])), (23, (.ifCond .lt 15, 26, 38, 0, 0, [], [])), (26, (.iload_n 2, 27, 0, 0, 0, [], [])), (27, (.i2l, 28, 0, 0, 0, [], [])), (28, (.lconst 0, 29, 0, 0, 0, [], [])), (29, (.ldc2_w 204, 32, 0, 0, 3, [], []))],
  [(32, (.invokestatic 67, 35, 0, 0, 0, [], [])), (35, (.ifCond .ne 5, 38, 40, 0, 0, [], [])), (38, (.iconst 0, 39, 0, 0, 0, [], [])), (39, (.ireturn, 40, 0, 0, 0, [], [])), (40, (.aload_n 0, 41, 0, 0, 0, [], [])), (41, (.aload_n 0, 42, 0, 0, 0, [], [])), (42, (.aload_n 0, 43, 0, 0, 0, [], [])), (43, (.getfield 414, 46, 0, 0, 0, [], [])), (46, (.iconst 2, 47, 0, 2, 0, [], [])), (47, (.invokevirtual 75, 50, 0, 0, 0, [], [])), (50, (.putfield 420, 53, 0, 0, 0, [], [])), (53, (.aload_n 0, 54, 0, 0, 0, [], [])), (54, (.aload_n 0, 55, 0, 0, 0, [], [])), (55, (.aload_n 0, 56, 0, 0, 0, [], [])), (56, (.getfield 414, 59, 0, 0, 0, [], [])), (59, (.iconst 0, 60, 0, 0, 0, [], [])), (60, (.invokevirtual 75, 63, 0, 0, 0, [], [])), (63, (.putfield 408, 66, 0, 0, 0, [], []))],
  [(66, (.iload_n 2, 67, 0, 0, 0, [], [])), (67, (.ifCond .ne 11, 70, 78, 0, 0, [], [])), (70, (.aload_n 0, 71, 0, 0, 0, [], [])), (71, (.iload_n 3, 72, 0, 0, 0, [], [])), (72, (.invokevirtual 417, 75, 0, 0, 0, [], [])), (75, (.goto 34, 78, 109, 0, 0, [], [])), (78, (.iload_n 2, 79, 0, 0, 0, [], [])), (79, (.iconst 1, 80, 0, 1, 0, [], [])), (80, (.if_icmp .ne 11, 83, 91, 0, 0, [], [])), (83, (.aload_n 0, 84, 0, 0, 0, [], [])), (84, (.iload_n 3, 85, 0, 0, 0, [], [])), (85, (.invokevirtual 426, 88, 0, 0, 0, [], [])), (88, (.goto 21, 91, 109, 0, 0, [], [])), (91, (.iload_n 2, 92, 0, 0, 0, [], [])), (92, (.iconst 2, 93, 0, 2, 0, [], [])), (93, (.if_icmp .ne 11, 96, 104, 0, 0, [], []))],
  [(96, (.aload_n 0, 97, 0, 0, 0, [], [])), (97, (.iload_n 3, 98, 0, 0, 0, [], [])), (98, (.invokevirtual 429, 101, 0, 0, 0, [], [])), (101, (.goto 8, 104, 109, 0, 0, [], [])), (104, (.aload_n 0, 105, 0, 0, 0, [], [])), (105, (.iload_n 3, 106, 0, 0, 0, [], [])), (106, (.invokevirtual 432, 109, 0, 0, 0, [], [])), (109, (.istore 4, 111, 0, 0, 0, [], [])), (111, (.aload_n 0, 112, 0, 0, 0, [], [])), (112, (.getfield 402, 115, 0, 0, 0, [], [])), (115, (.ifCond .eq 8, 118, 123, 0, 0, [], [])), (118, (.bipush (-15), 120, 0, (-15), 0, [], [])), (120, (.goto 5, 123, 125, 0, 0, [], [])), (123, (.iload 4, 125, 0, 0, 0, [], [])), (125, (.ireturn, 126, 0, 0, 0, [], []))]]
noncomputable abbrev zT_265 : zT := (12, zI_265, 1, 5) -- X12_act
noncomputable def zI_266 : List (List (Nat × zE)) := [[(0, (.aload_n 0, 1, 0, 0, 0, [], [])), (1, (.getfield 405, 4, 0, 0, 0, [], [])), (4, (.bipush 30, 6, 0, 30, 0, [], [])), (6, (.if_icmp .ge 10, 9, 16, 0, 0, [], [])), (9, (.aload_n 0, 10, 0, 0, 0, [], [])), (10, (.getfield 405, 13, 0, 0, 0, [], [])), (13, (.goto 5, 16, 18, 0, 0, [], [])), (16, (.bipush 30, 18, 0, 30, 0, [], [])), (18, (.ireturn, 19, 0, 0, 0, [], []))]]
noncomputable abbrev zT_266 : zT := (12, zI_266, 1, 1) -- X12_traced
noncomputable def zI_267 : List (List (Nat × zE)) := [[(0, (.iload_n 1, 1, 0, 0, 0, [], [])), (1, (.i2l, 2, 0, 0, 0, [], [])), (2, (.lconst 0, 3, 0, 0, 0, [], [])), (3, (.aload_n 0, 4, 0, 0, 0, [], [])), (4, (.invokevirtual 435, 7, 0, 0, 0, [], [])), (7, (.iconst 1, 8, 0, 1, 0, [], [])), (8, (.isub, 9, 0, 0, 0, [], [])), (9, (.i2l, 10, 0, 0, 0, [], [])), (10, (.invokestatic 67, 13, 0, 0, 0, [], [])), (13, (.ifCond .eq 12, 16, 25, 0, 0, [], [])), (16, (.aload_n 0, 17, 0, 0, 0, [], [])), (17, (.getfield 64, 20, 0, 0, 0, [], [])), (20, (.iload_n 1, 21, 0, 0, 0, [], [])), (21, (.iaload, 22, 0, 0, 0, [], [])), (22, (.goto 5, 25, 27, 0, 0, [], [])), (25, (.bipush (-3), 27, 0, (-3), 0, [], [])), (27, (.ireturn, 28, 0, 0, 0, [], []))]]
noncomputable abbrev zT_267 : zT := (12, zI_267, 1, 2) -- X12_trace
noncomputable def zI_268 : List (List (Nat × zE)) := [[(0, (.iload_n 1, 1, 0, 0, 0, [], [])), (1, (.tableswitch 86 0 6 #[43, 50, 57, 64, 71, 76, 81], 44, 87, 0, 0, [(0, 44), (1, 51), (2, 58), (3, 65), (4, 72), (5, 77), (6, 82)], []))],
  [(44, (.aload_n 0, 45, 0, 0, 0, [], [])), (45, (.getfield 7, 48, 0, 0, 0, [], [])), (48, (.iconst 0, 49, 0, 0, 0, [], [])), (49, (.iaload, 50, 1, 0, 0, [], [])), (50, (.ireturn, 51, 0, 0, 0, [], [])), (51, (.aload_n 0, 52, 0, 0, 0, [], [])), (52, (.getfield 7, 55, 0, 0, 0, [], [])), (55, (.iconst 1, 56, 0, 1, 0, [], [])), (56, (.iaload, 57, 2, 0, 0, [], [])), (57, (.ireturn, 58, 0, 0, 0, [], [])), (58, (.aload_n 0, 59, 0, 0, 0, [], [])), (59, (.getfield 7, 62, 0, 0, 0, [], [])), (62, (.iconst 2, 63, 0, 2, 0, [], [])), (63, (.iaload, 64, 3, 0, 0, [], []))],
  [(64, (.ireturn, 65, 0, 0, 0, [], [])), (65, (.aload_n 0, 66, 0, 0, 0, [], [])), (66, (.getfield 7, 69, 0, 0, 0, [], [])), (69, (.iconst 3, 70, 0, 3, 0, [], [])), (70, (.iaload, 71, 4, 0, 0, [], [])), (71, (.ireturn, 72, 0, 0, 0, [], [])), (72, (.aload_n 0, 73, 0, 0, 0, [], [])), (73, (.getfield 249, 76, 0, 0, 0, [], [])), (76, (.ireturn, 77, 0, 0, 0, [], [])), (77, (.aload_n 0, 78, 0, 0, 0, [], [])), (78, (.getfield 257, 81, 0, 0, 0, [], [])), (81, (.ireturn, 82, 0, 0, 0, [], [])), (82, (.aload_n 0, 83, 0, 0, 0, [], [])), (83, (.invokevirtual 435, 86, 0, 0, 0, [], [])), (86, (.ireturn, 87, 0, 0, 0, [], [])), (87, (.iconst (-1), 88, 0, (-1), 0, [], [])), (88, (.ireturn, 89, 0, 0, 0, [], []))]]
noncomputable abbrev zT_268 : zT := (12, zI_268, 1, 2) -- X12_many
noncomputable def zI_269 : List (List (Nat × zE)) := [[(0, (.iconst 0, 1, 0, 0, 0, [], [])), (1, (.istore_n 1, 2, 0, 0, 0, [], [])), (2, (.iload_n 1, 3, 0, 0, 0, [], [true, true])), (3, (.sipush 320, 6, 0, 320, 0, [], [])), (6, (.if_icmp .ge 21, 9, 27, 0, 0, [], [])), (9, (.aload_n 0, 10, 0, 0, 0, [], [])), (10, (.getfield 13, 13, 0, 0, 0, [], [])), (13, (.iload_n 1, 14, 0, 0, 0, [], [])), (14, (.aload_n 0, 15, 0, 0, 0, [], [])), (15, (.getfield 7, 18, 0, 0, 0, [], [])), (18, (.iload_n 1, 19, 0, 0, 0, [], [])), (19, (.iaload, 20, 0, 0, 0, [], [])), (20, (.iastore, 21, 0, 0, 0, [], [])), (21, (.iinc 1 1, 24, 0, 1, 0, [], [])), (24, (.goto (-22), 27, 2, 0, 0, [], [])), (27, (.aload_n 0, 28, 0, 0, 0, [], [])), (28, (.iconst 1, 29, 0, 1, 0, [], [])), (29, (.putfield 438, 32, 0, 0, 0, [], []))],
  [(32, (.iconst 1, 33, 0, 1, 0, [], [])), (33, (.ireturn, 34, 0, 0, 0, [], []))]]
noncomputable abbrev zT_269 : zT := (12, zI_269, 1, 2) -- X12_keep
noncomputable def zI_270 : List (List (Nat × zE)) := [[(0, (.aload_n 0, 1, 0, 0, 0, [], [])), (1, (.getfield 438, 4, 0, 0, 0, [], [])), (4, (.ifCond .ne 6, 7, 10, 0, 0, [], [])), (7, (.bipush (-3), 9, 0, (-3), 0, [], [])), (9, (.ireturn, 10, 0, 0, 0, [], [])), (10, (.iconst 0, 11, 0, 0, 0, [], [])), (11, (.istore_n 1, 12, 0, 0, 0, [], [])), (12, (.iload_n 1, 13, 0, 0, 0, [], [true, true])), (13, (.sipush 320, 16, 0, 320, 0, [], [])), (16, (.if_icmp .ge 21, 19, 37, 0, 0, [], [])), (19, (.aload_n 0, 20, 0, 0, 0, [], [])), (20, (.getfield 7, 23, 0, 0, 0, [], [])), (23, (.iload_n 1, 24, 0, 0, 0, [], [])), (24, (.aload_n 0, 25, 0, 0, 0, [], [])), (25, (.getfield 13, 28, 0, 0, 0, [], [])), (28, (.iload_n 1, 29, 0, 0, 0, [], [])), (29, (.iaload, 30, 0, 0, 0, [], [])), (30, (.iastore, 31, 0, 0, 0, [], [])), (31, (.iinc 1 1, 34, 0, 1, 0, [], []))],
  [(34, (.goto (-22), 37, 12, 0, 0, [], [])), (37, (.aload_n 0, 38, 0, 0, 0, [], [])), (38, (.getfield 7, 41, 0, 0, 0, [], [])), (41, (.iconst 0, 42, 0, 0, 0, [], [])), (42, (.iaload, 43, 1, 0, 0, [], [])), (43, (.ireturn, 44, 0, 0, 0, [], []))]]
noncomputable abbrev zT_270 : zT := (12, zI_270, 1, 2) -- X12_again
noncomputable def zI_271 : List (List (Nat × zE)) := [[(0, (.iload_n 0, 1, 0, 0, 0, [], [])), (1, (.iload_n 0, 2, 0, 0, 0, [], [])), (2, (.iconst 1, 3, 0, 1, 0, [], [])), (3, (.iushr, 4, 0, 0, 0, [], [])), (4, (.ldc_w 265, 7, 0, 1431655765, 0, [], [])), (7, (.iand, 8, 0, 0, 0, [], [])), (8, (.isub, 9, 0, 0, 0, [], [])), (9, (.istore_n 0, 10, 0, 0, 0, [], [])), (10, (.iload_n 0, 11, 0, 0, 0, [], [])), (11, (.ldc_w 266, 14, 0, 858993459, 0, [], [])), (14, (.iand, 15, 0, 0, 0, [], [])), (15, (.iload_n 0, 16, 0, 0, 0, [], [])), (16, (.iconst 2, 17, 0, 2, 0, [], [])), (17, (.iushr, 18, 0, 0, 0, [], [])), (18, (.ldc_w 266, 21, 0, 858993459, 0, [], [])), (21, (.iand, 22, 0, 0, 0, [], [])), (22, (.iadd, 23, 0, 0, 0, [], [])), (23, (.istore_n 0, 24, 0, 0, 0, [], [])), (24, (.iload_n 0, 25, 0, 0, 0, [], [])), (25, (.iload_n 0, 26, 0, 0, 0, [], [])), (26, (.iconst 4, 27, 0, 4, 0, [], [])), (27, (.iushr, 28, 0, 0, 0, [], [])), (28, (.iadd, 29, 0, 0, 0, [], [])), (29, (.ldc_w 267, 32, 0, 252645135, 0, [], []))],
  [(32, (.iand, 33, 0, 0, 0, [], [])), (33, (.istore_n 0, 34, 0, 0, 0, [], [])), (34, (.iload_n 0, 35, 0, 0, 0, [], [])), (35, (.iload_n 0, 36, 0, 0, 0, [], [])), (36, (.bipush 8, 38, 0, 8, 0, [], [])), (38, (.iushr, 39, 0, 0, 0, [], [])), (39, (.iadd, 40, 0, 0, 0, [], [])), (40, (.istore_n 0, 41, 0, 0, 0, [], [])), (41, (.iload_n 0, 42, 0, 0, 0, [], [])), (42, (.iload_n 0, 43, 0, 0, 0, [], [])), (43, (.bipush 16, 45, 0, 16, 0, [], [])), (45, (.iushr, 46, 0, 0, 0, [], [])), (46, (.iadd, 47, 0, 0, 0, [], [])), (47, (.istore_n 0, 48, 0, 0, 0, [], [])), (48, (.iload_n 0, 49, 0, 0, 0, [], [])), (49, (.bipush 63, 51, 0, 63, 0, [], [])), (51, (.iand, 52, 0, 0, 0, [], [])), (52, (.ireturn, 53, 0, 0, 0, [], []))]]
noncomputable abbrev zT_271 : zT := (13, zI_271, 1, 1) -- J6_bitCount_0f7a4
noncomputable def zI_272 : List (List (Nat × zE)) := [[(0, (.iload_n 0, 1, 0, 0, 0, [], [])), (1, (.iload_n 1, 2, 0, 0, 0, [], [])), (2, (.if_icmp .lt 7, 5, 9, 0, 0, [], [])), (5, (.iload_n 0, 6, 0, 0, 0, [], [])), (6, (.goto 4, 9, 10, 0, 0, [], [])), (9, (.iload_n 1, 10, 0, 0, 0, [], [])), (10, (.ireturn, 11, 0, 0, 0, [], []))]]
noncomputable abbrev zT_272 : zT := (14, zI_272, 1, 2) -- J9_max_7cf53
noncomputable def zI_273 : List (List (Nat × zE)) := [[(0, (.iload_n 0, 1, 0, 0, 0, [], [])), (1, (.iload_n 1, 2, 0, 0, 0, [], [])), (2, (.if_icmp .gt 7, 5, 9, 0, 0, [], [])), (5, (.iload_n 0, 6, 0, 0, 0, [], [])), (6, (.goto 4, 9, 10, 0, 0, [], [])), (9, (.iload_n 1, 10, 0, 0, 0, [], [])), (10, (.ireturn, 11, 0, 0, 0, [], []))]]
noncomputable abbrev zT_273 : zT := (14, zI_273, 1, 2) -- J9_min_7cf53
noncomputable def zI_274 : List (List (Nat × zE)) := [[(0, (.aload_n 0, 1, 0, 0, 0, [], [])), (1, (.getfield 9, 4, 0, 0, 0, [], [])), (4, (.arraylength, 5, 0, 0, 0, [], [])), (5, (.aload_n 0, 6, 0, 0, 0, [], [])), (6, (.invokevirtual 335, 9, 0, 0, 0, [], [])), (9, (.ishr, 10, 0, 0, 0, [], [])), (10, (.ireturn, 11, 0, 0, 0, [], []))]]
noncomputable abbrev zT_274 : zT := (16, zI_274, 1, 1) -- J0_length_8abf5
noncomputable def zI_275 : List (List (Nat × zE)) := [[(0, (.aload_n 0, 1, 0, 0, 0, [], [])), (1, (.invokevirtual 492, 4, 0, 0, 0, [], [])), (4, (.ifCond .eq 12, 7, 16, 0, 0, [], [])), (7, (.aload_n 0, 8, 0, 0, 0, [], [])), (8, (.getfield 9, 11, 0, 0, 0, [], [])), (11, (.iload_n 1, 12, 0, 0, 0, [], [])), (12, (.invokestatic 495, 15, 0, 0, 0, [], [])), (15, (.ireturn, 16, 0, 0, 0, [], [])), (16, (.aload_n 0, 17, 0, 0, 0, [], [])), (17, (.getfield 9, 20, 0, 0, 0, [], [])), (20, (.iload_n 1, 21, 0, 0, 0, [], [])), (21, (.invokestatic 498, 24, 0, 0, 0, [], [])), (24, (.ireturn, 25, 0, 0, 0, [], []))]]
noncomputable abbrev zT_275 : zT := (16, zI_275, 4, 2) -- J0_charAt_5068e
noncomputable def zI_276 : List (List (Nat × zE)) := [[(0, (.getstatic 38, 3, 0, 0, 0, [], [])), (3, (.ifCond .eq 10, 6, 13, 0, 0, [], [])), (6, (.aload_n 0, 7, 0, 0, 0, [], [])), (7, (.getfield 15, 10, 0, 0, 0, [], [])), (10, (.goto 4, 13, 14, 0, 0, [], [])), (13, (.iconst 1, 14, 0, 1, 0, [], [])), (14, (.ireturn, 15, 0, 0, 0, [], []))]]
noncomputable abbrev zT_276 : zT := (16, zI_276, 5, 1) -- J0_coder_7d493
noncomputable def zI_277 : List (List (Nat × zE)) := [[(0, (.getstatic 38, 3, 0, 0, 0, [], [])), (3, (.ifCond .eq 14, 6, 17, 0, 0, [], [])), (6, (.aload_n 0, 7, 0, 0, 0, [], [])), (7, (.getfield 15, 10, 0, 0, 0, [], [])), (10, (.ifCond .ne 7, 13, 17, 0, 0, [], [])), (13, (.iconst 1, 14, 0, 1, 0, [], [])), (14, (.goto 4, 17, 18, 0, 0, [], [])), (17, (.iconst 0, 18, 0, 0, 0, [], [])), (18, (.ireturn, 19, 0, 0, 0, [], []))]]
noncomputable abbrev zT_277 : zT := (16, zI_277, 3, 1) -- J0_isLatin1_aae02
noncomputable def zI_278 : List (List (Nat × zE)) := [[(0, (.iload_n 0, 1, 0, 0, 0, [], [])), (1, (.iload_n 1, 2, 0, 0, 0, [], [])), (2, (.getstatic 1053, 5, 0, 0, 0, [], [])), (5, (.invokestatic 1059, 8, 0, 0, 0, [], [])), (8, (.pop, 9, 0, 0, 0, [], [])), (9, (.return_, 10, 0, 0, 0, [], []))]]
noncomputable abbrev zT_278 : zT := (16, zI_278, 0, 2) -- J0_checkIndex_df160
noncomputable def zI_279 : List (List (Nat × zE)) := [[(0, (.iload_n 1, 1, 0, 0, 0, [], [])), (1, (.aload_n 0, 2, 0, 0, 0, [], [])), (2, (.arraylength, 3, 0, 0, 0, [], [])), (3, (.invokestatic 9, 6, 0, 0, 0, [], [])), (6, (.aload_n 0, 7, 0, 0, 0, [], [])), (7, (.iload_n 1, 8, 0, 0, 0, [], [])), (8, (.baload, 9, 0, 0, 0, [], [])), (9, (.sipush 255, 12, 0, 255, 0, [], [])), (12, (.iand, 13, 0, 0, 0, [], [])), (13, (.i2c, 14, 0, 0, 0, [], [])), (14, (.ireturn, 15, 0, 0, 0, [], []))]]
noncomputable abbrev zT_279 : zT := (17, zI_279, 4, 2) -- J1_charAt_3b067
noncomputable def zI_280 : List (List (Nat × zE)) := [[(0, (.iload_n 0, 1, 0, 0, 0, [], [])), (1, (.ifCond .lt 8, 4, 9, 0, 0, [], [])), (4, (.iload_n 0, 5, 0, 0, 0, [], [])), (5, (.iload_n 1, 6, 0, 0, 0, [], [])), (6, (.if_icmp .lt 10, 9, 16, 0, 0, [], [])), (9, (.aload_n 2, 10, 0, 0, 0, [], [])), (10, (.iload_n 0, 11, 0, 0, 0, [], [])), (11, (.iload_n 1, 12, 0, 0, 0, [], [])), (12, (.invokestatic 95, 15, 0, 0, 0, [], [])), (15, (.athrow, 16, 0, 0, 0, [], [])), (16, (.iload_n 0, 17, 0, 0, 0, [], [])), (17, (.ireturn, 18, 0, 0, 0, [], []))]]
noncomputable abbrev zT_280 : zT := (18, zI_280, 1, 3) -- J3_checkIndex_8e157
noncomputable def zI_281_0 : List (Nat × zE) := [(0, (.new 7, 3, 0, 0, 0, [], [])), (3, (.dup, 4, 0, 0, 0, [], [])), (4, (.invokespecial 9, 7, 0, 0, 0, [], [])), (7, (.astore_n 1, 8, 0, 0, 0, [], [])), (8, (.new 10, 11, 0, 0, 0, [], [])), (11, (.dup, 12, 0, 0, 0, [], [])), (12, (.invokespecial 12, 15, 0, 0, 0, [], [])), (15, (.astore_n 2, 16, 0, 0, 0, [], [])), (16, (.iconst 0, 17, 0, 0, 0, [], [])), (17, (.istore_n 3, 18, 0, 0, 0, [], [])), (18, (.iload_n 3, 19, 0, 0, 0, [], [true, true, true, true])), (19, (.aload_n 0, 20, 0, 0, 0, [], [])), (20, (.arraylength, 21, 0, 0, 0, [], [])), (21, (.iconst 5, 22, 0, 5, 0, [], [])), (22, (.isub, 23, 0, 0, 0, [], [])), (23, (.if_icmp .gt 1564, 26, 1587, 0, 0, [], [])), (26, (.aload_n 0, 27, 0, 0, 0, [], [])), (27, (.iload_n 3, 28, 0, 0, 0, [], [])), (28, (.iaload, 29, 0, 0, 0, [], [])), (29, (.bipush 63, 31, 0, 63, 0, [], [])), (31, (.iand, 32, 0, 0, 0, [], []))]
noncomputable def zI_281_1 : List (Nat × zE) := [(32, (.tableswitch 1549 0 48 #[212, 265, 298, 341, 374, 407, 470, 483, 516, 549, 582, 605, 618, 631, 644, 657, 680, 693, 716, 739, 762, 775, 788, 801, 834, 857, 890, 923, 956, 969, 992, 1005, 1028, 1041, 1064, 1087, 1120, 1163, 1176, 1219, 1262, 1305, 1358, 1401, 1434, 1477, 1500, 1523, 1536], 244, 1581, 0, 0, [(0, 244), (1, 297), (2, 330), (3, 373), (4, 406), (5, 439), (6, 502), (7, 515), (8, 548), (9, 581), (10, 614), (11, 637), (12, 650), (13, 663), (14, 676), (15, 689), (16, 712), (17, 725), (18, 748), (19, 771), (20, 794), (21, 807), (22, 820), (23, 833), (24, 866), (25, 889), (26, 922), (27, 955), (28, 988), (29, 1001), (30, 1024), (31, 1037), (32, 1060), (33, 1073), (34, 1096), (35, 1119), (36, 1152), (37, 1195), (38, 1208), (39, 1251), (40, 1294), (41, 1337), (42, 1390), (43, 1433), (44, 1466), (45, 1509), (46, 1532), (47, 1555), (48, 1568)], []))]
noncomputable def zI_281_2 : List (Nat × zE) := []
noncomputable def zI_281_3 : List (Nat × zE) := []
noncomputable def zI_281_4 : List (Nat × zE) := []
noncomputable def zI_281_5 : List (Nat × zE) := []
noncomputable def zI_281_6 : List (Nat × zE) := []
noncomputable def zI_281_7 : List (Nat × zE) := [(244, (.aload_n 1, 245, 0, 0, 0, [], [true, true, true, true])), (245, (.aload_n 0, 246, 0, 0, 0, [], [])), (246, (.iload_n 3, 247, 0, 0, 0, [], [])), (247, (.iconst 1, 248, 0, 1, 0, [], [])), (248, (.iadd, 249, 0, 0, 0, [], [])), (249, (.iaload, 250, 0, 0, 0, [], [])), (250, (.aload_n 0, 251, 0, 0, 0, [], [])), (251, (.iload_n 3, 252, 0, 0, 0, [], [])), (252, (.iconst 2, 253, 0, 2, 0, [], [])), (253, (.iadd, 254, 0, 0, 0, [], [])), (254, (.iaload, 255, 0, 0, 0, [], [])), (255, (.aload_n 0, 256, 0, 0, 0, [], []))]
noncomputable def zI_281_8 : List (Nat × zE) := [(256, (.iload_n 3, 257, 0, 0, 0, [], [])), (257, (.iconst 3, 258, 0, 3, 0, [], [])), (258, (.iadd, 259, 0, 0, 0, [], [])), (259, (.iaload, 260, 0, 0, 0, [], [])), (260, (.aload_n 0, 261, 0, 0, 0, [], [])), (261, (.iload_n 3, 262, 0, 0, 0, [], [])), (262, (.iconst 4, 263, 0, 4, 0, [], [])), (263, (.iadd, 264, 0, 0, 0, [], [])), (264, (.iaload, 265, 0, 0, 0, [], [])), (265, (.invokevirtual 13, 268, 0, 0, 0, [], [])), (268, (.aload_n 2, 269, 0, 0, 0, [], [])), (269, (.aload_n 0, 270, 0, 0, 0, [], [])), (270, (.iload_n 3, 271, 0, 0, 0, [], [])), (271, (.iconst 1, 272, 0, 1, 0, [], [])), (272, (.iadd, 273, 0, 0, 0, [], [])), (273, (.iaload, 274, 0, 0, 0, [], [])), (274, (.aload_n 0, 275, 0, 0, 0, [], [])), (275, (.iload_n 3, 276, 0, 0, 0, [], [])), (276, (.iconst 2, 277, 0, 2, 0, [], [])), (277, (.iadd, 278, 0, 0, 0, [], [])), (278, (.iaload, 279, 0, 0, 0, [], [])), (279, (.aload_n 0, 280, 0, 0, 0, [], [])), (280, (.iload_n 3, 281, 0, 0, 0, [], [])), (281, (.iconst 3, 282, 0, 3, 0, [], [])), (282, (.iadd, 283, 0, 0, 0, [], [])), (283, (.iaload, 284, 0, 0, 0, [], [])), (284, (.aload_n 0, 285, 0, 0, 0, [], [])), (285, (.iload_n 3, 286, 0, 0, 0, [], [])), (286, (.iconst 4, 287, 0, 4, 0, [], [])), (287, (.iadd, 288, 0, 0, 0, [], []))]
noncomputable def zI_281_9 : List (Nat × zE) := [(288, (.iaload, 289, 0, 0, 0, [], [])), (289, (.invokevirtual 17, 292, 0, 0, 0, [], [])), (292, (.if_icmp .eq 1289, 295, 1581, 0, 0, [], [])), (295, (.iconst 0, 296, 0, 0, 0, [], [])), (296, (.ireturn, 297, 0, 0, 0, [], [])), (297, (.aload_n 1, 298, 0, 0, 0, [], [true, true, true, true])), (298, (.aload_n 0, 299, 0, 0, 0, [], [])), (299, (.iload_n 3, 300, 0, 0, 0, [], [])), (300, (.iconst 1, 301, 0, 1, 0, [], [])), (301, (.iadd, 302, 0, 0, 0, [], [])), (302, (.iaload, 303, 0, 0, 0, [], [])), (303, (.aload_n 0, 304, 0, 0, 0, [], [])), (304, (.iload_n 3, 305, 0, 0, 0, [], [])), (305, (.iconst 2, 306, 0, 2, 0, [], [])), (306, (.iadd, 307, 0, 0, 0, [], [])), (307, (.iaload, 308, 0, 0, 0, [], [])), (308, (.invokevirtual 18, 311, 0, 0, 0, [], [])), (311, (.aload_n 2, 312, 0, 0, 0, [], [])), (312, (.aload_n 0, 313, 0, 0, 0, [], [])), (313, (.iload_n 3, 314, 0, 0, 0, [], [])), (314, (.iconst 1, 315, 0, 1, 0, [], [])), (315, (.iadd, 316, 0, 0, 0, [], [])), (316, (.iaload, 317, 0, 0, 0, [], [])), (317, (.aload_n 0, 318, 0, 0, 0, [], [])), (318, (.iload_n 3, 319, 0, 0, 0, [], [])), (319, (.iconst 2, 320, 0, 2, 0, [], []))]
noncomputable def zI_281_10 : List (Nat × zE) := [(320, (.iadd, 321, 0, 0, 0, [], [])), (321, (.iaload, 322, 0, 0, 0, [], [])), (322, (.invokevirtual 22, 325, 0, 0, 0, [], [])), (325, (.if_icmp .eq 1256, 328, 1581, 0, 0, [], [])), (328, (.iconst 0, 329, 0, 0, 0, [], [])), (329, (.ireturn, 330, 0, 0, 0, [], [])), (330, (.aload_n 1, 331, 0, 0, 0, [], [true, true, true, true])), (331, (.aload_n 0, 332, 0, 0, 0, [], [])), (332, (.iload_n 3, 333, 0, 0, 0, [], [])), (333, (.iconst 1, 334, 0, 1, 0, [], [])), (334, (.iadd, 335, 0, 0, 0, [], [])), (335, (.iaload, 336, 0, 0, 0, [], [])), (336, (.aload_n 0, 337, 0, 0, 0, [], [])), (337, (.iload_n 3, 338, 0, 0, 0, [], [])), (338, (.iconst 2, 339, 0, 2, 0, [], [])), (339, (.iadd, 340, 0, 0, 0, [], [])), (340, (.iaload, 341, 0, 0, 0, [], [])), (341, (.aload_n 0, 342, 0, 0, 0, [], [])), (342, (.iload_n 3, 343, 0, 0, 0, [], [])), (343, (.iconst 3, 344, 0, 3, 0, [], [])), (344, (.iadd, 345, 0, 0, 0, [], [])), (345, (.iaload, 346, 0, 0, 0, [], [])), (346, (.invokevirtual 23, 349, 0, 0, 0, [], [])), (349, (.aload_n 2, 350, 0, 0, 0, [], [])), (350, (.aload_n 0, 351, 0, 0, 0, [], [])), (351, (.iload_n 3, 352, 0, 0, 0, [], []))]
noncomputable def zI_281_11 : List (Nat × zE) := [(352, (.iconst 1, 353, 0, 1, 0, [], [])), (353, (.iadd, 354, 0, 0, 0, [], [])), (354, (.iaload, 355, 0, 0, 0, [], [])), (355, (.aload_n 0, 356, 0, 0, 0, [], [])), (356, (.iload_n 3, 357, 0, 0, 0, [], [])), (357, (.iconst 2, 358, 0, 2, 0, [], [])), (358, (.iadd, 359, 0, 0, 0, [], [])), (359, (.iaload, 360, 0, 0, 0, [], [])), (360, (.aload_n 0, 361, 0, 0, 0, [], [])), (361, (.iload_n 3, 362, 0, 0, 0, [], [])), (362, (.iconst 3, 363, 0, 3, 0, [], [])), (363, (.iadd, 364, 0, 0, 0, [], [])), (364, (.iaload, 365, 0, 0, 0, [], [])), (365, (.invokevirtual 27, 368, 0, 0, 0, [], [])), (368, (.if_icmp .eq 1213, 371, 1581, 0, 0, [], [])), (371, (.iconst 0, 372, 0, 0, 0, [], [])), (372, (.ireturn, 373, 0, 0, 0, [], [])), (373, (.aload_n 1, 374, 0, 0, 0, [], [true, true, true, true])), (374, (.aload_n 0, 375, 0, 0, 0, [], [])), (375, (.iload_n 3, 376, 0, 0, 0, [], [])), (376, (.iconst 1, 377, 0, 1, 0, [], [])), (377, (.iadd, 378, 0, 0, 0, [], [])), (378, (.iaload, 379, 0, 0, 0, [], [])), (379, (.aload_n 0, 380, 0, 0, 0, [], [])), (380, (.iload_n 3, 381, 0, 0, 0, [], [])), (381, (.iconst 2, 382, 0, 2, 0, [], [])), (382, (.iadd, 383, 0, 0, 0, [], [])), (383, (.iaload, 384, 0, 0, 0, [], []))]
noncomputable def zI_281_12 : List (Nat × zE) := [(384, (.invokevirtual 28, 387, 0, 0, 0, [], [])), (387, (.aload_n 2, 388, 0, 0, 0, [], [])), (388, (.aload_n 0, 389, 0, 0, 0, [], [])), (389, (.iload_n 3, 390, 0, 0, 0, [], [])), (390, (.iconst 1, 391, 0, 1, 0, [], [])), (391, (.iadd, 392, 0, 0, 0, [], [])), (392, (.iaload, 393, 0, 0, 0, [], [])), (393, (.aload_n 0, 394, 0, 0, 0, [], [])), (394, (.iload_n 3, 395, 0, 0, 0, [], [])), (395, (.iconst 2, 396, 0, 2, 0, [], [])), (396, (.iadd, 397, 0, 0, 0, [], [])), (397, (.iaload, 398, 0, 0, 0, [], [])), (398, (.invokevirtual 31, 401, 0, 0, 0, [], [])), (401, (.if_icmp .eq 1180, 404, 1581, 0, 0, [], [])), (404, (.iconst 0, 405, 0, 0, 0, [], [])), (405, (.ireturn, 406, 0, 0, 0, [], [])), (406, (.aload_n 1, 407, 0, 0, 0, [], [true, true, true, true])), (407, (.aload_n 0, 408, 0, 0, 0, [], [])), (408, (.iload_n 3, 409, 0, 0, 0, [], [])), (409, (.iconst 1, 410, 0, 1, 0, [], [])), (410, (.iadd, 411, 0, 0, 0, [], [])), (411, (.iaload, 412, 0, 0, 0, [], [])), (412, (.aload_n 0, 413, 0, 0, 0, [], [])), (413, (.iload_n 3, 414, 0, 0, 0, [], [])), (414, (.iconst 2, 415, 0, 2, 0, [], [])), (415, (.iadd, 416, 0, 0, 0, [], []))]
noncomputable def zI_281_13 : List (Nat × zE) := [(416, (.iaload, 417, 0, 0, 0, [], [])), (417, (.invokevirtual 32, 420, 0, 0, 0, [], [])), (420, (.aload_n 2, 421, 0, 0, 0, [], [])), (421, (.aload_n 0, 422, 0, 0, 0, [], [])), (422, (.iload_n 3, 423, 0, 0, 0, [], [])), (423, (.iconst 1, 424, 0, 1, 0, [], [])), (424, (.iadd, 425, 0, 0, 0, [], [])), (425, (.iaload, 426, 0, 0, 0, [], [])), (426, (.aload_n 0, 427, 0, 0, 0, [], [])), (427, (.iload_n 3, 428, 0, 0, 0, [], [])), (428, (.iconst 2, 429, 0, 2, 0, [], [])), (429, (.iadd, 430, 0, 0, 0, [], [])), (430, (.iaload, 431, 0, 0, 0, [], [])), (431, (.invokevirtual 35, 434, 0, 0, 0, [], [])), (434, (.if_icmp .eq 1147, 437, 1581, 0, 0, [], [])), (437, (.iconst 0, 438, 0, 0, 0, [], [])), (438, (.ireturn, 439, 0, 0, 0, [], [])), (439, (.aload_n 1, 440, 0, 0, 0, [], [true, true, true, true])), (440, (.aload_n 0, 441, 0, 0, 0, [], [])), (441, (.iload_n 3, 442, 0, 0, 0, [], [])), (442, (.iconst 1, 443, 0, 1, 0, [], [])), (443, (.iadd, 444, 0, 0, 0, [], [])), (444, (.iaload, 445, 0, 0, 0, [], [])), (445, (.i2l, 446, 0, 0, 0, [], [])), (446, (.bipush 32, 448, 0, 32, 0, [], []))]
noncomputable def zI_281_14 : List (Nat × zE) := [(448, (.lshl, 449, 0, 0, 0, [], [])), (449, (.aload_n 0, 450, 0, 0, 0, [], [])), (450, (.iload_n 3, 451, 0, 0, 0, [], [])), (451, (.iconst 2, 452, 0, 2, 0, [], [])), (452, (.iadd, 453, 0, 0, 0, [], [])), (453, (.iaload, 454, 0, 0, 0, [], [])), (454, (.i2l, 455, 0, 0, 0, [], [])), (455, (.ldc2_w 36, 458, 0, 0, 4294967295, [], [])), (458, (.land, 459, 0, 0, 0, [], [])), (459, (.lor, 460, 0, 0, 0, [], [])), (460, (.aload_n 0, 461, 0, 0, 0, [], [])), (461, (.iload_n 3, 462, 0, 0, 0, [], [])), (462, (.iconst 3, 463, 0, 3, 0, [], [])), (463, (.iadd, 464, 0, 0, 0, [], [])), (464, (.iaload, 465, 0, 0, 0, [], [])), (465, (.invokevirtual 38, 468, 0, 0, 0, [], [])), (468, (.aload_n 2, 469, 0, 0, 0, [], [])), (469, (.aload_n 0, 470, 0, 0, 0, [], [])), (470, (.iload_n 3, 471, 0, 0, 0, [], [])), (471, (.iconst 1, 472, 0, 1, 0, [], [])), (472, (.iadd, 473, 0, 0, 0, [], [])), (473, (.iaload, 474, 0, 0, 0, [], [])), (474, (.i2l, 475, 0, 0, 0, [], [])), (475, (.bipush 32, 477, 0, 32, 0, [], [])), (477, (.lshl, 478, 0, 0, 0, [], [])), (478, (.aload_n 0, 479, 0, 0, 0, [], [])), (479, (.iload_n 3, 480, 0, 0, 0, [], []))]
noncomputable def zI_281_15 : List (Nat × zE) := [(480, (.iconst 2, 481, 0, 2, 0, [], [])), (481, (.iadd, 482, 0, 0, 0, [], [])), (482, (.iaload, 483, 0, 0, 0, [], [])), (483, (.i2l, 484, 0, 0, 0, [], [])), (484, (.ldc2_w 36, 487, 0, 0, 4294967295, [], [])), (487, (.land, 488, 0, 0, 0, [], [])), (488, (.lor, 489, 0, 0, 0, [], [])), (489, (.aload_n 0, 490, 0, 0, 0, [], [])), (490, (.iload_n 3, 491, 0, 0, 0, [], [])), (491, (.iconst 3, 492, 0, 3, 0, [], [])), (492, (.iadd, 493, 0, 0, 0, [], [])), (493, (.iaload, 494, 0, 0, 0, [], [])), (494, (.invokevirtual 42, 497, 0, 0, 0, [], [])), (497, (.if_icmp .eq 1084, 500, 1581, 0, 0, [], [])), (500, (.iconst 0, 501, 0, 0, 0, [], [])), (501, (.ireturn, 502, 0, 0, 0, [], [])), (502, (.aload_n 1, 503, 0, 0, 0, [], [true, true, true, true])), (503, (.invokevirtual 43, 506, 0, 0, 0, [], [])), (506, (.aload_n 2, 507, 0, 0, 0, [], [])), (507, (.invokevirtual 47, 510, 0, 0, 0, [], [])), (510, (.if_icmp .eq 1071, 513, 1581, 0, 0, [], []))]
noncomputable def zI_281_16 : List (Nat × zE) := [(513, (.iconst 0, 514, 0, 0, 0, [], [])), (514, (.ireturn, 515, 0, 0, 0, [], [])), (515, (.aload_n 1, 516, 0, 0, 0, [], [true, true, true, true])), (516, (.aload_n 0, 517, 0, 0, 0, [], [])), (517, (.iload_n 3, 518, 0, 0, 0, [], [])), (518, (.iconst 1, 519, 0, 1, 0, [], [])), (519, (.iadd, 520, 0, 0, 0, [], [])), (520, (.iaload, 521, 0, 0, 0, [], [])), (521, (.aload_n 0, 522, 0, 0, 0, [], [])), (522, (.iload_n 3, 523, 0, 0, 0, [], [])), (523, (.iconst 2, 524, 0, 2, 0, [], [])), (524, (.iadd, 525, 0, 0, 0, [], [])), (525, (.iaload, 526, 0, 0, 0, [], [])), (526, (.invokevirtual 48, 529, 0, 0, 0, [], [])), (529, (.aload_n 2, 530, 0, 0, 0, [], [])), (530, (.aload_n 0, 531, 0, 0, 0, [], [])), (531, (.iload_n 3, 532, 0, 0, 0, [], [])), (532, (.iconst 1, 533, 0, 1, 0, [], [])), (533, (.iadd, 534, 0, 0, 0, [], [])), (534, (.iaload, 535, 0, 0, 0, [], [])), (535, (.aload_n 0, 536, 0, 0, 0, [], [])), (536, (.iload_n 3, 537, 0, 0, 0, [], [])), (537, (.iconst 2, 538, 0, 2, 0, [], [])), (538, (.iadd, 539, 0, 0, 0, [], [])), (539, (.iaload, 540, 0, 0, 0, [], [])), (540, (.invokevirtual 51, 543, 0, 0, 0, [], [])), (543, (.if_icmp .eq 1038, 546, 1581, 0, 0, [], []))]
noncomputable def zI_281_17 : List (Nat × zE) := [(546, (.iconst 0, 547, 0, 0, 0, [], [])), (547, (.ireturn, 548, 0, 0, 0, [], [])), (548, (.aload_n 1, 549, 0, 0, 0, [], [true, true, true, true])), (549, (.aload_n 0, 550, 0, 0, 0, [], [])), (550, (.iload_n 3, 551, 0, 0, 0, [], [])), (551, (.iconst 1, 552, 0, 1, 0, [], [])), (552, (.iadd, 553, 0, 0, 0, [], [])), (553, (.iaload, 554, 0, 0, 0, [], [])), (554, (.aload_n 0, 555, 0, 0, 0, [], [])), (555, (.iload_n 3, 556, 0, 0, 0, [], [])), (556, (.iconst 2, 557, 0, 2, 0, [], [])), (557, (.iadd, 558, 0, 0, 0, [], [])), (558, (.iaload, 559, 0, 0, 0, [], [])), (559, (.invokevirtual 52, 562, 0, 0, 0, [], [])), (562, (.aload_n 2, 563, 0, 0, 0, [], [])), (563, (.aload_n 0, 564, 0, 0, 0, [], [])), (564, (.iload_n 3, 565, 0, 0, 0, [], [])), (565, (.iconst 1, 566, 0, 1, 0, [], [])), (566, (.iadd, 567, 0, 0, 0, [], [])), (567, (.iaload, 568, 0, 0, 0, [], [])), (568, (.aload_n 0, 569, 0, 0, 0, [], [])), (569, (.iload_n 3, 570, 0, 0, 0, [], [])), (570, (.iconst 2, 571, 0, 2, 0, [], [])), (571, (.iadd, 572, 0, 0, 0, [], [])), (572, (.iaload, 573, 0, 0, 0, [], [])), (573, (.invokevirtual 55, 576, 0, 0, 0, [], []))]
noncomputable def zI_281_18 : List (Nat × zE) := [(576, (.if_icmp .eq 1005, 579, 1581, 0, 0, [], [])), (579, (.iconst 0, 580, 0, 0, 0, [], [])), (580, (.ireturn, 581, 0, 0, 0, [], [])), (581, (.aload_n 1, 582, 0, 0, 0, [], [true, true, true, true])), (582, (.aload_n 0, 583, 0, 0, 0, [], [])), (583, (.iload_n 3, 584, 0, 0, 0, [], [])), (584, (.iconst 1, 585, 0, 1, 0, [], [])), (585, (.iadd, 586, 0, 0, 0, [], [])), (586, (.iaload, 587, 0, 0, 0, [], [])), (587, (.aload_n 0, 588, 0, 0, 0, [], [])), (588, (.iload_n 3, 589, 0, 0, 0, [], [])), (589, (.iconst 2, 590, 0, 2, 0, [], [])), (590, (.iadd, 591, 0, 0, 0, [], [])), (591, (.iaload, 592, 0, 0, 0, [], [])), (592, (.invokevirtual 56, 595, 0, 0, 0, [], [])), (595, (.aload_n 2, 596, 0, 0, 0, [], [])), (596, (.aload_n 0, 597, 0, 0, 0, [], [])), (597, (.iload_n 3, 598, 0, 0, 0, [], [])), (598, (.iconst 1, 599, 0, 1, 0, [], [])), (599, (.iadd, 600, 0, 0, 0, [], [])), (600, (.iaload, 601, 0, 0, 0, [], [])), (601, (.aload_n 0, 602, 0, 0, 0, [], [])), (602, (.iload_n 3, 603, 0, 0, 0, [], [])), (603, (.iconst 2, 604, 0, 2, 0, [], [])), (604, (.iadd, 605, 0, 0, 0, [], [])), (605, (.iaload, 606, 0, 0, 0, [], [])), (606, (.invokevirtual 59, 609, 0, 0, 0, [], []))]
noncomputable def zI_281_19 : List (Nat × zE) := [(609, (.if_icmp .eq 972, 612, 1581, 0, 0, [], [])), (612, (.iconst 0, 613, 0, 0, 0, [], [])), (613, (.ireturn, 614, 0, 0, 0, [], [])), (614, (.aload_n 1, 615, 0, 0, 0, [], [true, true, true, true])), (615, (.aload_n 0, 616, 0, 0, 0, [], [])), (616, (.iload_n 3, 617, 0, 0, 0, [], [])), (617, (.iconst 1, 618, 0, 1, 0, [], [])), (618, (.iadd, 619, 0, 0, 0, [], [])), (619, (.iaload, 620, 0, 0, 0, [], [])), (620, (.invokevirtual 60, 623, 0, 0, 0, [], [])), (623, (.aload_n 2, 624, 0, 0, 0, [], [])), (624, (.aload_n 0, 625, 0, 0, 0, [], [])), (625, (.iload_n 3, 626, 0, 0, 0, [], [])), (626, (.iconst 1, 627, 0, 1, 0, [], [])), (627, (.iadd, 628, 0, 0, 0, [], [])), (628, (.iaload, 629, 0, 0, 0, [], [])), (629, (.invokevirtual 64, 632, 0, 0, 0, [], [])), (632, (.if_icmp .eq 949, 635, 1581, 0, 0, [], [])), (635, (.iconst 0, 636, 0, 0, 0, [], [])), (636, (.ireturn, 637, 0, 0, 0, [], [])), (637, (.aload_n 1, 638, 0, 0, 0, [], [true, true, true, true])), (638, (.invokevirtual 65, 641, 0, 0, 0, [], []))]
noncomputable def zI_281_20 : List (Nat × zE) := [(641, (.aload_n 2, 642, 0, 0, 0, [], [])), (642, (.invokevirtual 68, 645, 0, 0, 0, [], [])), (645, (.if_icmp .eq 936, 648, 1581, 0, 0, [], [])), (648, (.iconst 0, 649, 0, 0, 0, [], [])), (649, (.ireturn, 650, 0, 0, 0, [], [])), (650, (.aload_n 1, 651, 0, 0, 0, [], [true, true, true, true])), (651, (.invokevirtual 69, 654, 0, 0, 0, [], [])), (654, (.aload_n 2, 655, 0, 0, 0, [], [])), (655, (.invokevirtual 72, 658, 0, 0, 0, [], [])), (658, (.if_icmp .eq 923, 661, 1581, 0, 0, [], [])), (661, (.iconst 0, 662, 0, 0, 0, [], [])), (662, (.ireturn, 663, 0, 0, 0, [], [])), (663, (.aload_n 1, 664, 0, 0, 0, [], [true, true, true, true])), (664, (.invokevirtual 73, 667, 0, 0, 0, [], [])), (667, (.aload_n 2, 668, 0, 0, 0, [], [])), (668, (.invokevirtual 76, 671, 0, 0, 0, [], [])), (671, (.if_icmp .eq 910, 674, 1581, 0, 0, [], []))]
noncomputable def zI_281_21 : List (Nat × zE) := [(674, (.iconst 0, 675, 0, 0, 0, [], [])), (675, (.ireturn, 676, 0, 0, 0, [], [])), (676, (.aload_n 1, 677, 0, 0, 0, [], [true, true, true, true])), (677, (.invokevirtual 77, 680, 0, 0, 0, [], [])), (680, (.aload_n 2, 681, 0, 0, 0, [], [])), (681, (.invokevirtual 80, 684, 0, 0, 0, [], [])), (684, (.if_icmp .eq 897, 687, 1581, 0, 0, [], [])), (687, (.iconst 0, 688, 0, 0, 0, [], [])), (688, (.ireturn, 689, 0, 0, 0, [], [])), (689, (.aload_n 1, 690, 0, 0, 0, [], [true, true, true, true])), (690, (.aload_n 0, 691, 0, 0, 0, [], [])), (691, (.iload_n 3, 692, 0, 0, 0, [], [])), (692, (.iconst 1, 693, 0, 1, 0, [], [])), (693, (.iadd, 694, 0, 0, 0, [], [])), (694, (.iaload, 695, 0, 0, 0, [], [])), (695, (.invokevirtual 81, 698, 0, 0, 0, [], [])), (698, (.aload_n 2, 699, 0, 0, 0, [], [])), (699, (.aload_n 0, 700, 0, 0, 0, [], [])), (700, (.iload_n 3, 701, 0, 0, 0, [], [])), (701, (.iconst 1, 702, 0, 1, 0, [], [])), (702, (.iadd, 703, 0, 0, 0, [], [])), (703, (.iaload, 704, 0, 0, 0, [], []))]
noncomputable def zI_281_22 : List (Nat × zE) := [(704, (.invokevirtual 84, 707, 0, 0, 0, [], [])), (707, (.if_icmp .eq 874, 710, 1581, 0, 0, [], [])), (710, (.iconst 0, 711, 0, 0, 0, [], [])), (711, (.ireturn, 712, 0, 0, 0, [], [])), (712, (.aload_n 1, 713, 0, 0, 0, [], [true, true, true, true])), (713, (.invokevirtual 85, 716, 0, 0, 0, [], [])), (716, (.aload_n 2, 717, 0, 0, 0, [], [])), (717, (.invokevirtual 88, 720, 0, 0, 0, [], [])), (720, (.if_icmp .eq 861, 723, 1581, 0, 0, [], [])), (723, (.iconst 0, 724, 0, 0, 0, [], [])), (724, (.ireturn, 725, 0, 0, 0, [], [])), (725, (.aload_n 1, 726, 0, 0, 0, [], [true, true, true, true])), (726, (.aload_n 0, 727, 0, 0, 0, [], [])), (727, (.iload_n 3, 728, 0, 0, 0, [], [])), (728, (.iconst 1, 729, 0, 1, 0, [], [])), (729, (.iadd, 730, 0, 0, 0, [], [])), (730, (.iaload, 731, 0, 0, 0, [], [])), (731, (.invokevirtual 89, 734, 0, 0, 0, [], [])), (734, (.aload_n 2, 735, 0, 0, 0, [], [])), (735, (.aload_n 0, 736, 0, 0, 0, [], []))]
noncomputable def zI_281_23 : List (Nat × zE) := [(736, (.iload_n 3, 737, 0, 0, 0, [], [])), (737, (.iconst 1, 738, 0, 1, 0, [], [])), (738, (.iadd, 739, 0, 0, 0, [], [])), (739, (.iaload, 740, 0, 0, 0, [], [])), (740, (.invokevirtual 92, 743, 0, 0, 0, [], [])), (743, (.if_icmp .eq 838, 746, 1581, 0, 0, [], [])), (746, (.iconst 0, 747, 0, 0, 0, [], [])), (747, (.ireturn, 748, 0, 0, 0, [], [])), (748, (.aload_n 1, 749, 0, 0, 0, [], [true, true, true, true])), (749, (.aload_n 0, 750, 0, 0, 0, [], [])), (750, (.iload_n 3, 751, 0, 0, 0, [], [])), (751, (.iconst 1, 752, 0, 1, 0, [], [])), (752, (.iadd, 753, 0, 0, 0, [], [])), (753, (.iaload, 754, 0, 0, 0, [], [])), (754, (.invokevirtual 93, 757, 0, 0, 0, [], [])), (757, (.aload_n 2, 758, 0, 0, 0, [], [])), (758, (.aload_n 0, 759, 0, 0, 0, [], [])), (759, (.iload_n 3, 760, 0, 0, 0, [], [])), (760, (.iconst 1, 761, 0, 1, 0, [], [])), (761, (.iadd, 762, 0, 0, 0, [], [])), (762, (.iaload, 763, 0, 0, 0, [], [])), (763, (.invokevirtual 96, 766, 0, 0, 0, [], [])), (766, (.if_icmp .eq 815, 769, 1581, 0, 0, [], []))]
noncomputable def zI_281_24 : List (Nat × zE) := [(769, (.iconst 0, 770, 0, 0, 0, [], [])), (770, (.ireturn, 771, 0, 0, 0, [], [])), (771, (.aload_n 1, 772, 0, 0, 0, [], [true, true, true, true])), (772, (.aload_n 0, 773, 0, 0, 0, [], [])), (773, (.iload_n 3, 774, 0, 0, 0, [], [])), (774, (.iconst 1, 775, 0, 1, 0, [], [])), (775, (.iadd, 776, 0, 0, 0, [], [])), (776, (.iaload, 777, 0, 0, 0, [], [])), (777, (.invokevirtual 97, 780, 0, 0, 0, [], [])), (780, (.aload_n 2, 781, 0, 0, 0, [], [])), (781, (.aload_n 0, 782, 0, 0, 0, [], [])), (782, (.iload_n 3, 783, 0, 0, 0, [], [])), (783, (.iconst 1, 784, 0, 1, 0, [], [])), (784, (.iadd, 785, 0, 0, 0, [], [])), (785, (.iaload, 786, 0, 0, 0, [], [])), (786, (.invokevirtual 100, 789, 0, 0, 0, [], [])), (789, (.if_icmp .eq 792, 792, 1581, 0, 0, [], [])), (792, (.iconst 0, 793, 0, 0, 0, [], [])), (793, (.ireturn, 794, 0, 0, 0, [], [])), (794, (.aload_n 1, 795, 0, 0, 0, [], [true, true, true, true])), (795, (.invokevirtual 101, 798, 0, 0, 0, [], [])), (798, (.aload_n 2, 799, 0, 0, 0, [], [])), (799, (.invokevirtual 104, 802, 0, 0, 0, [], []))]
noncomputable def zI_281_25 : List (Nat × zE) := [(802, (.if_icmp .eq 779, 805, 1581, 0, 0, [], [])), (805, (.iconst 0, 806, 0, 0, 0, [], [])), (806, (.ireturn, 807, 0, 0, 0, [], [])), (807, (.aload_n 1, 808, 0, 0, 0, [], [true, true, true, true])), (808, (.invokevirtual 105, 811, 0, 0, 0, [], [])), (811, (.aload_n 2, 812, 0, 0, 0, [], [])), (812, (.invokevirtual 108, 815, 0, 0, 0, [], [])), (815, (.if_icmp .eq 766, 818, 1581, 0, 0, [], [])), (818, (.iconst 0, 819, 0, 0, 0, [], [])), (819, (.ireturn, 820, 0, 0, 0, [], [])), (820, (.aload_n 1, 821, 0, 0, 0, [], [true, true, true, true])), (821, (.invokevirtual 109, 824, 0, 0, 0, [], [])), (824, (.aload_n 2, 825, 0, 0, 0, [], [])), (825, (.invokevirtual 112, 828, 0, 0, 0, [], [])), (828, (.if_icmp .eq 753, 831, 1581, 0, 0, [], [])), (831, (.iconst 0, 832, 0, 0, 0, [], []))]
noncomputable def zI_281_26 : List (Nat × zE) := [(832, (.ireturn, 833, 0, 0, 0, [], [])), (833, (.aload_n 1, 834, 0, 0, 0, [], [true, true, true, true])), (834, (.aload_n 0, 835, 0, 0, 0, [], [])), (835, (.iload_n 3, 836, 0, 0, 0, [], [])), (836, (.iconst 1, 837, 0, 1, 0, [], [])), (837, (.iadd, 838, 0, 0, 0, [], [])), (838, (.iaload, 839, 0, 0, 0, [], [])), (839, (.aload_n 0, 840, 0, 0, 0, [], [])), (840, (.iload_n 3, 841, 0, 0, 0, [], [])), (841, (.iconst 2, 842, 0, 2, 0, [], [])), (842, (.iadd, 843, 0, 0, 0, [], [])), (843, (.iaload, 844, 0, 0, 0, [], [])), (844, (.invokevirtual 113, 847, 0, 0, 0, [], [])), (847, (.aload_n 2, 848, 0, 0, 0, [], [])), (848, (.aload_n 0, 849, 0, 0, 0, [], [])), (849, (.iload_n 3, 850, 0, 0, 0, [], [])), (850, (.iconst 1, 851, 0, 1, 0, [], [])), (851, (.iadd, 852, 0, 0, 0, [], [])), (852, (.iaload, 853, 0, 0, 0, [], [])), (853, (.aload_n 0, 854, 0, 0, 0, [], [])), (854, (.iload_n 3, 855, 0, 0, 0, [], [])), (855, (.iconst 2, 856, 0, 2, 0, [], [])), (856, (.iadd, 857, 0, 0, 0, [], [])), (857, (.iaload, 858, 0, 0, 0, [], [])), (858, (.invokevirtual 116, 861, 0, 0, 0, [], [])), (861, (.if_icmp .eq 720, 864, 1581, 0, 0, [], []))]
noncomputable def zI_281_27 : List (Nat × zE) := [(864, (.iconst 0, 865, 0, 0, 0, [], [])), (865, (.ireturn, 866, 0, 0, 0, [], [])), (866, (.aload_n 1, 867, 0, 0, 0, [], [true, true, true, true])), (867, (.aload_n 0, 868, 0, 0, 0, [], [])), (868, (.iload_n 3, 869, 0, 0, 0, [], [])), (869, (.iconst 1, 870, 0, 1, 0, [], [])), (870, (.iadd, 871, 0, 0, 0, [], [])), (871, (.iaload, 872, 0, 0, 0, [], [])), (872, (.invokevirtual 117, 875, 0, 0, 0, [], [])), (875, (.aload_n 2, 876, 0, 0, 0, [], [])), (876, (.aload_n 0, 877, 0, 0, 0, [], [])), (877, (.iload_n 3, 878, 0, 0, 0, [], [])), (878, (.iconst 1, 879, 0, 1, 0, [], [])), (879, (.iadd, 880, 0, 0, 0, [], [])), (880, (.iaload, 881, 0, 0, 0, [], [])), (881, (.invokevirtual 120, 884, 0, 0, 0, [], [])), (884, (.if_icmp .eq 697, 887, 1581, 0, 0, [], [])), (887, (.iconst 0, 888, 0, 0, 0, [], [])), (888, (.ireturn, 889, 0, 0, 0, [], [])), (889, (.aload_n 1, 890, 0, 0, 0, [], [true, true, true, true])), (890, (.aload_n 0, 891, 0, 0, 0, [], [])), (891, (.iload_n 3, 892, 0, 0, 0, [], [])), (892, (.iconst 1, 893, 0, 1, 0, [], [])), (893, (.iadd, 894, 0, 0, 0, [], [])), (894, (.iaload, 895, 0, 0, 0, [], [])), (895, (.aload_n 0, 896, 0, 0, 0, [], []))]
noncomputable def zI_281_28 : List (Nat × zE) := [(896, (.iload_n 3, 897, 0, 0, 0, [], [])), (897, (.iconst 2, 898, 0, 2, 0, [], [])), (898, (.iadd, 899, 0, 0, 0, [], [])), (899, (.iaload, 900, 0, 0, 0, [], [])), (900, (.invokevirtual 121, 903, 0, 0, 0, [], [])), (903, (.aload_n 2, 904, 0, 0, 0, [], [])), (904, (.aload_n 0, 905, 0, 0, 0, [], [])), (905, (.iload_n 3, 906, 0, 0, 0, [], [])), (906, (.iconst 1, 907, 0, 1, 0, [], [])), (907, (.iadd, 908, 0, 0, 0, [], [])), (908, (.iaload, 909, 0, 0, 0, [], [])), (909, (.aload_n 0, 910, 0, 0, 0, [], [])), (910, (.iload_n 3, 911, 0, 0, 0, [], [])), (911, (.iconst 2, 912, 0, 2, 0, [], [])), (912, (.iadd, 913, 0, 0, 0, [], [])), (913, (.iaload, 914, 0, 0, 0, [], [])), (914, (.invokevirtual 124, 917, 0, 0, 0, [], [])), (917, (.if_icmp .eq 664, 920, 1581, 0, 0, [], [])), (920, (.iconst 0, 921, 0, 0, 0, [], [])), (921, (.ireturn, 922, 0, 0, 0, [], [])), (922, (.aload_n 1, 923, 0, 0, 0, [], [true, true, true, true])), (923, (.aload_n 0, 924, 0, 0, 0, [], [])), (924, (.iload_n 3, 925, 0, 0, 0, [], [])), (925, (.iconst 1, 926, 0, 1, 0, [], [])), (926, (.iadd, 927, 0, 0, 0, [], [])), (927, (.iaload, 928, 0, 0, 0, [], []))]
noncomputable def zI_281_29 : List (Nat × zE) := [(928, (.aload_n 0, 929, 0, 0, 0, [], [])), (929, (.iload_n 3, 930, 0, 0, 0, [], [])), (930, (.iconst 2, 931, 0, 2, 0, [], [])), (931, (.iadd, 932, 0, 0, 0, [], [])), (932, (.iaload, 933, 0, 0, 0, [], [])), (933, (.invokevirtual 125, 936, 0, 0, 0, [], [])), (936, (.aload_n 2, 937, 0, 0, 0, [], [])), (937, (.aload_n 0, 938, 0, 0, 0, [], [])), (938, (.iload_n 3, 939, 0, 0, 0, [], [])), (939, (.iconst 1, 940, 0, 1, 0, [], [])), (940, (.iadd, 941, 0, 0, 0, [], [])), (941, (.iaload, 942, 0, 0, 0, [], [])), (942, (.aload_n 0, 943, 0, 0, 0, [], [])), (943, (.iload_n 3, 944, 0, 0, 0, [], [])), (944, (.iconst 2, 945, 0, 2, 0, [], [])), (945, (.iadd, 946, 0, 0, 0, [], [])), (946, (.iaload, 947, 0, 0, 0, [], [])), (947, (.invokevirtual 128, 950, 0, 0, 0, [], [])), (950, (.if_icmp .eq 631, 953, 1581, 0, 0, [], [])), (953, (.iconst 0, 954, 0, 0, 0, [], [])), (954, (.ireturn, 955, 0, 0, 0, [], [])), (955, (.aload_n 1, 956, 0, 0, 0, [], [true, true, true, true])), (956, (.aload_n 0, 957, 0, 0, 0, [], [])), (957, (.iload_n 3, 958, 0, 0, 0, [], [])), (958, (.iconst 1, 959, 0, 1, 0, [], [])), (959, (.iadd, 960, 0, 0, 0, [], []))]
noncomputable def zI_281_30 : List (Nat × zE) := [(960, (.iaload, 961, 0, 0, 0, [], [])), (961, (.aload_n 0, 962, 0, 0, 0, [], [])), (962, (.iload_n 3, 963, 0, 0, 0, [], [])), (963, (.iconst 2, 964, 0, 2, 0, [], [])), (964, (.iadd, 965, 0, 0, 0, [], [])), (965, (.iaload, 966, 0, 0, 0, [], [])), (966, (.invokevirtual 129, 969, 0, 0, 0, [], [])), (969, (.aload_n 2, 970, 0, 0, 0, [], [])), (970, (.aload_n 0, 971, 0, 0, 0, [], [])), (971, (.iload_n 3, 972, 0, 0, 0, [], [])), (972, (.iconst 1, 973, 0, 1, 0, [], [])), (973, (.iadd, 974, 0, 0, 0, [], [])), (974, (.iaload, 975, 0, 0, 0, [], [])), (975, (.aload_n 0, 976, 0, 0, 0, [], [])), (976, (.iload_n 3, 977, 0, 0, 0, [], [])), (977, (.iconst 2, 978, 0, 2, 0, [], [])), (978, (.iadd, 979, 0, 0, 0, [], [])), (979, (.iaload, 980, 0, 0, 0, [], [])), (980, (.invokevirtual 132, 983, 0, 0, 0, [], [])), (983, (.if_icmp .eq 598, 986, 1581, 0, 0, [], [])), (986, (.iconst 0, 987, 0, 0, 0, [], [])), (987, (.ireturn, 988, 0, 0, 0, [], [])), (988, (.aload_n 1, 989, 0, 0, 0, [], [true, true, true, true])), (989, (.invokevirtual 133, 992, 0, 0, 0, [], []))]
noncomputable def zI_281_31 : List (Nat × zE) := [(992, (.aload_n 2, 993, 0, 0, 0, [], [])), (993, (.invokevirtual 136, 996, 0, 0, 0, [], [])), (996, (.if_icmp .eq 585, 999, 1581, 0, 0, [], [])), (999, (.iconst 0, 1000, 0, 0, 0, [], [])), (1000, (.ireturn, 1001, 0, 0, 0, [], [])), (1001, (.aload_n 1, 1002, 0, 0, 0, [], [true, true, true, true])), (1002, (.aload_n 0, 1003, 0, 0, 0, [], [])), (1003, (.iload_n 3, 1004, 0, 0, 0, [], [])), (1004, (.iconst 1, 1005, 0, 1, 0, [], [])), (1005, (.iadd, 1006, 0, 0, 0, [], [])), (1006, (.iaload, 1007, 0, 0, 0, [], [])), (1007, (.invokevirtual 137, 1010, 0, 0, 0, [], [])), (1010, (.aload_n 2, 1011, 0, 0, 0, [], [])), (1011, (.aload_n 0, 1012, 0, 0, 0, [], [])), (1012, (.iload_n 3, 1013, 0, 0, 0, [], [])), (1013, (.iconst 1, 1014, 0, 1, 0, [], [])), (1014, (.iadd, 1015, 0, 0, 0, [], [])), (1015, (.iaload, 1016, 0, 0, 0, [], [])), (1016, (.invokevirtual 140, 1019, 0, 0, 0, [], [])), (1019, (.if_icmp .eq 562, 1022, 1581, 0, 0, [], [])), (1022, (.iconst 0, 1023, 0, 0, 0, [], [])), (1023, (.ireturn, 1024, 0, 0, 0, [], []))]
noncomputable def zI_281_32 : List (Nat × zE) := [(1024, (.aload_n 1, 1025, 0, 0, 0, [], [true, true, true, true])), (1025, (.invokevirtual 141, 1028, 0, 0, 0, [], [])), (1028, (.aload_n 2, 1029, 0, 0, 0, [], [])), (1029, (.invokevirtual 144, 1032, 0, 0, 0, [], [])), (1032, (.if_icmp .eq 549, 1035, 1581, 0, 0, [], [])), (1035, (.iconst 0, 1036, 0, 0, 0, [], [])), (1036, (.ireturn, 1037, 0, 0, 0, [], [])), (1037, (.aload_n 1, 1038, 0, 0, 0, [], [true, true, true, true])), (1038, (.aload_n 0, 1039, 0, 0, 0, [], [])), (1039, (.iload_n 3, 1040, 0, 0, 0, [], [])), (1040, (.iconst 1, 1041, 0, 1, 0, [], [])), (1041, (.iadd, 1042, 0, 0, 0, [], [])), (1042, (.iaload, 1043, 0, 0, 0, [], [])), (1043, (.invokevirtual 145, 1046, 0, 0, 0, [], [])), (1046, (.aload_n 2, 1047, 0, 0, 0, [], [])), (1047, (.aload_n 0, 1048, 0, 0, 0, [], [])), (1048, (.iload_n 3, 1049, 0, 0, 0, [], [])), (1049, (.iconst 1, 1050, 0, 1, 0, [], [])), (1050, (.iadd, 1051, 0, 0, 0, [], [])), (1051, (.iaload, 1052, 0, 0, 0, [], [])), (1052, (.invokevirtual 148, 1055, 0, 0, 0, [], [])), (1055, (.if_icmp .eq 526, 1058, 1581, 0, 0, [], []))]
noncomputable def zI_281_33 : List (Nat × zE) := [(1058, (.iconst 0, 1059, 0, 0, 0, [], [])), (1059, (.ireturn, 1060, 0, 0, 0, [], [])), (1060, (.aload_n 1, 1061, 0, 0, 0, [], [true, true, true, true])), (1061, (.invokevirtual 149, 1064, 0, 0, 0, [], [])), (1064, (.aload_n 2, 1065, 0, 0, 0, [], [])), (1065, (.invokevirtual 152, 1068, 0, 0, 0, [], [])), (1068, (.if_icmp .eq 513, 1071, 1581, 0, 0, [], [])), (1071, (.iconst 0, 1072, 0, 0, 0, [], [])), (1072, (.ireturn, 1073, 0, 0, 0, [], [])), (1073, (.aload_n 1, 1074, 0, 0, 0, [], [true, true, true, true])), (1074, (.aload_n 0, 1075, 0, 0, 0, [], [])), (1075, (.iload_n 3, 1076, 0, 0, 0, [], [])), (1076, (.iconst 1, 1077, 0, 1, 0, [], [])), (1077, (.iadd, 1078, 0, 0, 0, [], [])), (1078, (.iaload, 1079, 0, 0, 0, [], [])), (1079, (.invokevirtual 153, 1082, 0, 0, 0, [], [])), (1082, (.aload_n 2, 1083, 0, 0, 0, [], [])), (1083, (.aload_n 0, 1084, 0, 0, 0, [], [])), (1084, (.iload_n 3, 1085, 0, 0, 0, [], [])), (1085, (.iconst 1, 1086, 0, 1, 0, [], [])), (1086, (.iadd, 1087, 0, 0, 0, [], [])), (1087, (.iaload, 1088, 0, 0, 0, [], []))]
noncomputable def zI_281_34 : List (Nat × zE) := [(1088, (.invokevirtual 156, 1091, 0, 0, 0, [], [])), (1091, (.if_icmp .eq 490, 1094, 1581, 0, 0, [], [])), (1094, (.iconst 0, 1095, 0, 0, 0, [], [])), (1095, (.ireturn, 1096, 0, 0, 0, [], [])), (1096, (.aload_n 1, 1097, 0, 0, 0, [], [true, true, true, true])), (1097, (.aload_n 0, 1098, 0, 0, 0, [], [])), (1098, (.iload_n 3, 1099, 0, 0, 0, [], [])), (1099, (.iconst 1, 1100, 0, 1, 0, [], [])), (1100, (.iadd, 1101, 0, 0, 0, [], [])), (1101, (.iaload, 1102, 0, 0, 0, [], [])), (1102, (.invokevirtual 157, 1105, 0, 0, 0, [], [])), (1105, (.aload_n 2, 1106, 0, 0, 0, [], [])), (1106, (.aload_n 0, 1107, 0, 0, 0, [], [])), (1107, (.iload_n 3, 1108, 0, 0, 0, [], [])), (1108, (.iconst 1, 1109, 0, 1, 0, [], [])), (1109, (.iadd, 1110, 0, 0, 0, [], [])), (1110, (.iaload, 1111, 0, 0, 0, [], [])), (1111, (.invokevirtual 160, 1114, 0, 0, 0, [], [])), (1114, (.if_icmp .eq 467, 1117, 1581, 0, 0, [], [])), (1117, (.iconst 0, 1118, 0, 0, 0, [], [])), (1118, (.ireturn, 1119, 0, 0, 0, [], [])), (1119, (.aload_n 1, 1120, 0, 0, 0, [], [true, true, true, true]))]
noncomputable def zI_281_35 : List (Nat × zE) := [(1120, (.aload_n 0, 1121, 0, 0, 0, [], [])), (1121, (.iload_n 3, 1122, 0, 0, 0, [], [])), (1122, (.iconst 1, 1123, 0, 1, 0, [], [])), (1123, (.iadd, 1124, 0, 0, 0, [], [])), (1124, (.iaload, 1125, 0, 0, 0, [], [])), (1125, (.aload_n 0, 1126, 0, 0, 0, [], [])), (1126, (.iload_n 3, 1127, 0, 0, 0, [], [])), (1127, (.iconst 2, 1128, 0, 2, 0, [], [])), (1128, (.iadd, 1129, 0, 0, 0, [], [])), (1129, (.iaload, 1130, 0, 0, 0, [], [])), (1130, (.invokevirtual 161, 1133, 0, 0, 0, [], [])), (1133, (.aload_n 2, 1134, 0, 0, 0, [], [])), (1134, (.aload_n 0, 1135, 0, 0, 0, [], [])), (1135, (.iload_n 3, 1136, 0, 0, 0, [], [])), (1136, (.iconst 1, 1137, 0, 1, 0, [], [])), (1137, (.iadd, 1138, 0, 0, 0, [], [])), (1138, (.iaload, 1139, 0, 0, 0, [], [])), (1139, (.aload_n 0, 1140, 0, 0, 0, [], [])), (1140, (.iload_n 3, 1141, 0, 0, 0, [], [])), (1141, (.iconst 2, 1142, 0, 2, 0, [], [])), (1142, (.iadd, 1143, 0, 0, 0, [], [])), (1143, (.iaload, 1144, 0, 0, 0, [], [])), (1144, (.invokevirtual 164, 1147, 0, 0, 0, [], [])), (1147, (.if_icmp .eq 434, 1150, 1581, 0, 0, [], [])), (1150, (.iconst 0, 1151, 0, 0, 0, [], [])), (1151, (.ireturn, 1152, 0, 0, 0, [], []))]
noncomputable def zI_281_36 : List (Nat × zE) := [(1152, (.aload_n 1, 1153, 0, 0, 0, [], [true, true, true, true])), (1153, (.aload_n 0, 1154, 0, 0, 0, [], [])), (1154, (.iload_n 3, 1155, 0, 0, 0, [], [])), (1155, (.iconst 1, 1156, 0, 1, 0, [], [])), (1156, (.iadd, 1157, 0, 0, 0, [], [])), (1157, (.iaload, 1158, 0, 0, 0, [], [])), (1158, (.aload_n 0, 1159, 0, 0, 0, [], [])), (1159, (.iload_n 3, 1160, 0, 0, 0, [], [])), (1160, (.iconst 2, 1161, 0, 2, 0, [], [])), (1161, (.iadd, 1162, 0, 0, 0, [], [])), (1162, (.iaload, 1163, 0, 0, 0, [], [])), (1163, (.aload_n 0, 1164, 0, 0, 0, [], [])), (1164, (.iload_n 3, 1165, 0, 0, 0, [], [])), (1165, (.iconst 3, 1166, 0, 3, 0, [], [])), (1166, (.iadd, 1167, 0, 0, 0, [], [])), (1167, (.iaload, 1168, 0, 0, 0, [], [])), (1168, (.invokevirtual 165, 1171, 0, 0, 0, [], [])), (1171, (.aload_n 2, 1172, 0, 0, 0, [], [])), (1172, (.aload_n 0, 1173, 0, 0, 0, [], [])), (1173, (.iload_n 3, 1174, 0, 0, 0, [], [])), (1174, (.iconst 1, 1175, 0, 1, 0, [], [])), (1175, (.iadd, 1176, 0, 0, 0, [], [])), (1176, (.iaload, 1177, 0, 0, 0, [], [])), (1177, (.aload_n 0, 1178, 0, 0, 0, [], [])), (1178, (.iload_n 3, 1179, 0, 0, 0, [], [])), (1179, (.iconst 2, 1180, 0, 2, 0, [], [])), (1180, (.iadd, 1181, 0, 0, 0, [], [])), (1181, (.iaload, 1182, 0, 0, 0, [], [])), (1182, (.aload_n 0, 1183, 0, 0, 0, [], [])), (1183, (.iload_n 3, 1184, 0, 0, 0, [], []))]
noncomputable def zI_281_37 : List (Nat × zE) := [(1184, (.iconst 3, 1185, 0, 3, 0, [], [])), (1185, (.iadd, 1186, 0, 0, 0, [], [])), (1186, (.iaload, 1187, 0, 0, 0, [], [])), (1187, (.invokevirtual 168, 1190, 0, 0, 0, [], [])), (1190, (.if_icmp .eq 391, 1193, 1581, 0, 0, [], [])), (1193, (.iconst 0, 1194, 0, 0, 0, [], [])), (1194, (.ireturn, 1195, 0, 0, 0, [], [])), (1195, (.aload_n 1, 1196, 0, 0, 0, [], [true, true, true, true])), (1196, (.invokevirtual 169, 1199, 0, 0, 0, [], [])), (1199, (.aload_n 2, 1200, 0, 0, 0, [], [])), (1200, (.invokevirtual 172, 1203, 0, 0, 0, [], [])), (1203, (.if_icmp .eq 378, 1206, 1581, 0, 0, [], [])), (1206, (.iconst 0, 1207, 0, 0, 0, [], [])), (1207, (.ireturn, 1208, 0, 0, 0, [], [])), (1208, (.aload_n 1, 1209, 0, 0, 0, [], [true, true, true, true])), (1209, (.aload_n 0, 1210, 0, 0, 0, [], [])), (1210, (.iload_n 3, 1211, 0, 0, 0, [], [])), (1211, (.iconst 1, 1212, 0, 1, 0, [], [])), (1212, (.iadd, 1213, 0, 0, 0, [], [])), (1213, (.iaload, 1214, 0, 0, 0, [], [])), (1214, (.aload_n 0, 1215, 0, 0, 0, [], [])), (1215, (.iload_n 3, 1216, 0, 0, 0, [], []))]
noncomputable def zI_281_38 : List (Nat × zE) := [(1216, (.iconst 2, 1217, 0, 2, 0, [], [])), (1217, (.iadd, 1218, 0, 0, 0, [], [])), (1218, (.iaload, 1219, 0, 0, 0, [], [])), (1219, (.aload_n 0, 1220, 0, 0, 0, [], [])), (1220, (.iload_n 3, 1221, 0, 0, 0, [], [])), (1221, (.iconst 3, 1222, 0, 3, 0, [], [])), (1222, (.iadd, 1223, 0, 0, 0, [], [])), (1223, (.iaload, 1224, 0, 0, 0, [], [])), (1224, (.invokevirtual 173, 1227, 0, 0, 0, [], [])), (1227, (.aload_n 2, 1228, 0, 0, 0, [], [])), (1228, (.aload_n 0, 1229, 0, 0, 0, [], [])), (1229, (.iload_n 3, 1230, 0, 0, 0, [], [])), (1230, (.iconst 1, 1231, 0, 1, 0, [], [])), (1231, (.iadd, 1232, 0, 0, 0, [], [])), (1232, (.iaload, 1233, 0, 0, 0, [], [])), (1233, (.aload_n 0, 1234, 0, 0, 0, [], [])), (1234, (.iload_n 3, 1235, 0, 0, 0, [], [])), (1235, (.iconst 2, 1236, 0, 2, 0, [], [])), (1236, (.iadd, 1237, 0, 0, 0, [], [])), (1237, (.iaload, 1238, 0, 0, 0, [], [])), (1238, (.aload_n 0, 1239, 0, 0, 0, [], [])), (1239, (.iload_n 3, 1240, 0, 0, 0, [], [])), (1240, (.iconst 3, 1241, 0, 3, 0, [], [])), (1241, (.iadd, 1242, 0, 0, 0, [], [])), (1242, (.iaload, 1243, 0, 0, 0, [], [])), (1243, (.invokevirtual 176, 1246, 0, 0, 0, [], [])), (1246, (.if_icmp .eq 335, 1249, 1581, 0, 0, [], []))]
noncomputable def zI_281_39 : List (Nat × zE) := [(1249, (.iconst 0, 1250, 0, 0, 0, [], [])), (1250, (.ireturn, 1251, 0, 0, 0, [], [])), (1251, (.aload_n 1, 1252, 0, 0, 0, [], [true, true, true, true])), (1252, (.aload_n 0, 1253, 0, 0, 0, [], [])), (1253, (.iload_n 3, 1254, 0, 0, 0, [], [])), (1254, (.iconst 1, 1255, 0, 1, 0, [], [])), (1255, (.iadd, 1256, 0, 0, 0, [], [])), (1256, (.iaload, 1257, 0, 0, 0, [], [])), (1257, (.aload_n 0, 1258, 0, 0, 0, [], [])), (1258, (.iload_n 3, 1259, 0, 0, 0, [], [])), (1259, (.iconst 2, 1260, 0, 2, 0, [], [])), (1260, (.iadd, 1261, 0, 0, 0, [], [])), (1261, (.iaload, 1262, 0, 0, 0, [], [])), (1262, (.aload_n 0, 1263, 0, 0, 0, [], [])), (1263, (.iload_n 3, 1264, 0, 0, 0, [], [])), (1264, (.iconst 3, 1265, 0, 3, 0, [], [])), (1265, (.iadd, 1266, 0, 0, 0, [], [])), (1266, (.iaload, 1267, 0, 0, 0, [], [])), (1267, (.invokevirtual 177, 1270, 0, 0, 0, [], [])), (1270, (.aload_n 2, 1271, 0, 0, 0, [], [])), (1271, (.aload_n 0, 1272, 0, 0, 0, [], [])), (1272, (.iload_n 3, 1273, 0, 0, 0, [], [])), (1273, (.iconst 1, 1274, 0, 1, 0, [], [])), (1274, (.iadd, 1275, 0, 0, 0, [], [])), (1275, (.iaload, 1276, 0, 0, 0, [], [])), (1276, (.aload_n 0, 1277, 0, 0, 0, [], [])), (1277, (.iload_n 3, 1278, 0, 0, 0, [], [])), (1278, (.iconst 2, 1279, 0, 2, 0, [], [])), (1279, (.iadd, 1280, 0, 0, 0, [], []))]
noncomputable def zI_281_40 : List (Nat × zE) := [(1280, (.iaload, 1281, 0, 0, 0, [], [])), (1281, (.aload_n 0, 1282, 0, 0, 0, [], [])), (1282, (.iload_n 3, 1283, 0, 0, 0, [], [])), (1283, (.iconst 3, 1284, 0, 3, 0, [], [])), (1284, (.iadd, 1285, 0, 0, 0, [], [])), (1285, (.iaload, 1286, 0, 0, 0, [], [])), (1286, (.invokevirtual 180, 1289, 0, 0, 0, [], [])), (1289, (.if_icmp .eq 292, 1292, 1581, 0, 0, [], [])), (1292, (.iconst 0, 1293, 0, 0, 0, [], [])), (1293, (.ireturn, 1294, 0, 0, 0, [], [])), (1294, (.aload_n 1, 1295, 0, 0, 0, [], [true, true, true, true])), (1295, (.aload_n 0, 1296, 0, 0, 0, [], [])), (1296, (.iload_n 3, 1297, 0, 0, 0, [], [])), (1297, (.iconst 1, 1298, 0, 1, 0, [], [])), (1298, (.iadd, 1299, 0, 0, 0, [], [])), (1299, (.iaload, 1300, 0, 0, 0, [], [])), (1300, (.aload_n 0, 1301, 0, 0, 0, [], [])), (1301, (.iload_n 3, 1302, 0, 0, 0, [], [])), (1302, (.iconst 2, 1303, 0, 2, 0, [], [])), (1303, (.iadd, 1304, 0, 0, 0, [], [])), (1304, (.iaload, 1305, 0, 0, 0, [], [])), (1305, (.aload_n 0, 1306, 0, 0, 0, [], [])), (1306, (.iload_n 3, 1307, 0, 0, 0, [], [])), (1307, (.iconst 3, 1308, 0, 3, 0, [], [])), (1308, (.iadd, 1309, 0, 0, 0, [], [])), (1309, (.iaload, 1310, 0, 0, 0, [], [])), (1310, (.invokevirtual 181, 1313, 0, 0, 0, [], []))]
noncomputable def zI_281_41 : List (Nat × zE) := [(1313, (.aload_n 2, 1314, 0, 0, 0, [], [])), (1314, (.aload_n 0, 1315, 0, 0, 0, [], [])), (1315, (.iload_n 3, 1316, 0, 0, 0, [], [])), (1316, (.iconst 1, 1317, 0, 1, 0, [], [])), (1317, (.iadd, 1318, 0, 0, 0, [], [])), (1318, (.iaload, 1319, 0, 0, 0, [], [])), (1319, (.aload_n 0, 1320, 0, 0, 0, [], [])), (1320, (.iload_n 3, 1321, 0, 0, 0, [], [])), (1321, (.iconst 2, 1322, 0, 2, 0, [], [])), (1322, (.iadd, 1323, 0, 0, 0, [], [])), (1323, (.iaload, 1324, 0, 0, 0, [], [])), (1324, (.aload_n 0, 1325, 0, 0, 0, [], [])), (1325, (.iload_n 3, 1326, 0, 0, 0, [], [])), (1326, (.iconst 3, 1327, 0, 3, 0, [], [])), (1327, (.iadd, 1328, 0, 0, 0, [], [])), (1328, (.iaload, 1329, 0, 0, 0, [], [])), (1329, (.invokevirtual 184, 1332, 0, 0, 0, [], [])), (1332, (.if_icmp .eq 249, 1335, 1581, 0, 0, [], [])), (1335, (.iconst 0, 1336, 0, 0, 0, [], [])), (1336, (.ireturn, 1337, 0, 0, 0, [], [])), (1337, (.aload_n 1, 1338, 0, 0, 0, [], [true, true, true, true])), (1338, (.aload_n 0, 1339, 0, 0, 0, [], [])), (1339, (.iload_n 3, 1340, 0, 0, 0, [], [])), (1340, (.iconst 1, 1341, 0, 1, 0, [], [])), (1341, (.iadd, 1342, 0, 0, 0, [], [])), (1342, (.iaload, 1343, 0, 0, 0, [], [])), (1343, (.aload_n 0, 1344, 0, 0, 0, [], []))]
noncomputable def zI_281_42 : List (Nat × zE) := [(1344, (.iload_n 3, 1345, 0, 0, 0, [], [])), (1345, (.iconst 2, 1346, 0, 2, 0, [], [])), (1346, (.iadd, 1347, 0, 0, 0, [], [])), (1347, (.iaload, 1348, 0, 0, 0, [], [])), (1348, (.aload_n 0, 1349, 0, 0, 0, [], [])), (1349, (.iload_n 3, 1350, 0, 0, 0, [], [])), (1350, (.iconst 3, 1351, 0, 3, 0, [], [])), (1351, (.iadd, 1352, 0, 0, 0, [], [])), (1352, (.iaload, 1353, 0, 0, 0, [], [])), (1353, (.aload_n 0, 1354, 0, 0, 0, [], [])), (1354, (.iload_n 3, 1355, 0, 0, 0, [], [])), (1355, (.iconst 4, 1356, 0, 4, 0, [], [])), (1356, (.iadd, 1357, 0, 0, 0, [], [])), (1357, (.iaload, 1358, 0, 0, 0, [], [])), (1358, (.invokevirtual 185, 1361, 0, 0, 0, [], [])), (1361, (.aload_n 2, 1362, 0, 0, 0, [], [])), (1362, (.aload_n 0, 1363, 0, 0, 0, [], [])), (1363, (.iload_n 3, 1364, 0, 0, 0, [], [])), (1364, (.iconst 1, 1365, 0, 1, 0, [], [])), (1365, (.iadd, 1366, 0, 0, 0, [], [])), (1366, (.iaload, 1367, 0, 0, 0, [], [])), (1367, (.aload_n 0, 1368, 0, 0, 0, [], [])), (1368, (.iload_n 3, 1369, 0, 0, 0, [], [])), (1369, (.iconst 2, 1370, 0, 2, 0, [], [])), (1370, (.iadd, 1371, 0, 0, 0, [], [])), (1371, (.iaload, 1372, 0, 0, 0, [], [])), (1372, (.aload_n 0, 1373, 0, 0, 0, [], [])), (1373, (.iload_n 3, 1374, 0, 0, 0, [], [])), (1374, (.iconst 3, 1375, 0, 3, 0, [], [])), (1375, (.iadd, 1376, 0, 0, 0, [], []))]
noncomputable def zI_281_43 : List (Nat × zE) := [(1376, (.iaload, 1377, 0, 0, 0, [], [])), (1377, (.aload_n 0, 1378, 0, 0, 0, [], [])), (1378, (.iload_n 3, 1379, 0, 0, 0, [], [])), (1379, (.iconst 4, 1380, 0, 4, 0, [], [])), (1380, (.iadd, 1381, 0, 0, 0, [], [])), (1381, (.iaload, 1382, 0, 0, 0, [], [])), (1382, (.invokevirtual 188, 1385, 0, 0, 0, [], [])), (1385, (.if_icmp .eq 196, 1388, 1581, 0, 0, [], [])), (1388, (.iconst 0, 1389, 0, 0, 0, [], [])), (1389, (.ireturn, 1390, 0, 0, 0, [], [])), (1390, (.aload_n 1, 1391, 0, 0, 0, [], [true, true, true, true])), (1391, (.aload_n 0, 1392, 0, 0, 0, [], [])), (1392, (.iload_n 3, 1393, 0, 0, 0, [], [])), (1393, (.iconst 1, 1394, 0, 1, 0, [], [])), (1394, (.iadd, 1395, 0, 0, 0, [], [])), (1395, (.iaload, 1396, 0, 0, 0, [], [])), (1396, (.aload_n 0, 1397, 0, 0, 0, [], [])), (1397, (.iload_n 3, 1398, 0, 0, 0, [], [])), (1398, (.iconst 2, 1399, 0, 2, 0, [], [])), (1399, (.iadd, 1400, 0, 0, 0, [], [])), (1400, (.iaload, 1401, 0, 0, 0, [], [])), (1401, (.aload_n 0, 1402, 0, 0, 0, [], [])), (1402, (.iload_n 3, 1403, 0, 0, 0, [], [])), (1403, (.iconst 3, 1404, 0, 3, 0, [], [])), (1404, (.iadd, 1405, 0, 0, 0, [], [])), (1405, (.iaload, 1406, 0, 0, 0, [], [])), (1406, (.invokevirtual 189, 1409, 0, 0, 0, [], []))]
noncomputable def zI_281_44 : List (Nat × zE) := [(1409, (.aload_n 2, 1410, 0, 0, 0, [], [])), (1410, (.aload_n 0, 1411, 0, 0, 0, [], [])), (1411, (.iload_n 3, 1412, 0, 0, 0, [], [])), (1412, (.iconst 1, 1413, 0, 1, 0, [], [])), (1413, (.iadd, 1414, 0, 0, 0, [], [])), (1414, (.iaload, 1415, 0, 0, 0, [], [])), (1415, (.aload_n 0, 1416, 0, 0, 0, [], [])), (1416, (.iload_n 3, 1417, 0, 0, 0, [], [])), (1417, (.iconst 2, 1418, 0, 2, 0, [], [])), (1418, (.iadd, 1419, 0, 0, 0, [], [])), (1419, (.iaload, 1420, 0, 0, 0, [], [])), (1420, (.aload_n 0, 1421, 0, 0, 0, [], [])), (1421, (.iload_n 3, 1422, 0, 0, 0, [], [])), (1422, (.iconst 3, 1423, 0, 3, 0, [], [])), (1423, (.iadd, 1424, 0, 0, 0, [], [])), (1424, (.iaload, 1425, 0, 0, 0, [], [])), (1425, (.invokevirtual 192, 1428, 0, 0, 0, [], [])), (1428, (.if_icmp .eq 153, 1431, 1581, 0, 0, [], [])), (1431, (.iconst 0, 1432, 0, 0, 0, [], [])), (1432, (.ireturn, 1433, 0, 0, 0, [], [])), (1433, (.aload_n 1, 1434, 0, 0, 0, [], [true, true, true, true])), (1434, (.aload_n 0, 1435, 0, 0, 0, [], [])), (1435, (.iload_n 3, 1436, 0, 0, 0, [], [])), (1436, (.iconst 1, 1437, 0, 1, 0, [], [])), (1437, (.iadd, 1438, 0, 0, 0, [], [])), (1438, (.iaload, 1439, 0, 0, 0, [], [])), (1439, (.aload_n 0, 1440, 0, 0, 0, [], []))]
noncomputable def zI_281_45 : List (Nat × zE) := [(1440, (.iload_n 3, 1441, 0, 0, 0, [], [])), (1441, (.iconst 2, 1442, 0, 2, 0, [], [])), (1442, (.iadd, 1443, 0, 0, 0, [], [])), (1443, (.iaload, 1444, 0, 0, 0, [], [])), (1444, (.invokevirtual 193, 1447, 0, 0, 0, [], [])), (1447, (.aload_n 2, 1448, 0, 0, 0, [], [])), (1448, (.aload_n 0, 1449, 0, 0, 0, [], [])), (1449, (.iload_n 3, 1450, 0, 0, 0, [], [])), (1450, (.iconst 1, 1451, 0, 1, 0, [], [])), (1451, (.iadd, 1452, 0, 0, 0, [], [])), (1452, (.iaload, 1453, 0, 0, 0, [], [])), (1453, (.aload_n 0, 1454, 0, 0, 0, [], [])), (1454, (.iload_n 3, 1455, 0, 0, 0, [], [])), (1455, (.iconst 2, 1456, 0, 2, 0, [], [])), (1456, (.iadd, 1457, 0, 0, 0, [], [])), (1457, (.iaload, 1458, 0, 0, 0, [], [])), (1458, (.invokevirtual 196, 1461, 0, 0, 0, [], [])), (1461, (.if_icmp .eq 120, 1464, 1581, 0, 0, [], [])), (1464, (.iconst 0, 1465, 0, 0, 0, [], [])), (1465, (.ireturn, 1466, 0, 0, 0, [], [])), (1466, (.aload_n 1, 1467, 0, 0, 0, [], [true, true, true, true])), (1467, (.aload_n 0, 1468, 0, 0, 0, [], [])), (1468, (.iload_n 3, 1469, 0, 0, 0, [], [])), (1469, (.iconst 1, 1470, 0, 1, 0, [], [])), (1470, (.iadd, 1471, 0, 0, 0, [], [])), (1471, (.iaload, 1472, 0, 0, 0, [], []))]
noncomputable def zI_281_46 : List (Nat × zE) := [(1472, (.aload_n 0, 1473, 0, 0, 0, [], [])), (1473, (.iload_n 3, 1474, 0, 0, 0, [], [])), (1474, (.iconst 2, 1475, 0, 2, 0, [], [])), (1475, (.iadd, 1476, 0, 0, 0, [], [])), (1476, (.iaload, 1477, 0, 0, 0, [], [])), (1477, (.aload_n 0, 1478, 0, 0, 0, [], [])), (1478, (.iload_n 3, 1479, 0, 0, 0, [], [])), (1479, (.iconst 3, 1480, 0, 3, 0, [], [])), (1480, (.iadd, 1481, 0, 0, 0, [], [])), (1481, (.iaload, 1482, 0, 0, 0, [], [])), (1482, (.invokevirtual 197, 1485, 0, 0, 0, [], [])), (1485, (.aload_n 2, 1486, 0, 0, 0, [], [])), (1486, (.aload_n 0, 1487, 0, 0, 0, [], [])), (1487, (.iload_n 3, 1488, 0, 0, 0, [], [])), (1488, (.iconst 1, 1489, 0, 1, 0, [], [])), (1489, (.iadd, 1490, 0, 0, 0, [], [])), (1490, (.iaload, 1491, 0, 0, 0, [], [])), (1491, (.aload_n 0, 1492, 0, 0, 0, [], [])), (1492, (.iload_n 3, 1493, 0, 0, 0, [], [])), (1493, (.iconst 2, 1494, 0, 2, 0, [], [])), (1494, (.iadd, 1495, 0, 0, 0, [], [])), (1495, (.iaload, 1496, 0, 0, 0, [], [])), (1496, (.aload_n 0, 1497, 0, 0, 0, [], [])), (1497, (.iload_n 3, 1498, 0, 0, 0, [], [])), (1498, (.iconst 3, 1499, 0, 3, 0, [], [])), (1499, (.iadd, 1500, 0, 0, 0, [], [])), (1500, (.iaload, 1501, 0, 0, 0, [], [])), (1501, (.invokevirtual 200, 1504, 0, 0, 0, [], []))]
noncomputable def zI_281_47 : List (Nat × zE) := [(1504, (.if_icmp .eq 77, 1507, 1581, 0, 0, [], [])), (1507, (.iconst 0, 1508, 0, 0, 0, [], [])), (1508, (.ireturn, 1509, 0, 0, 0, [], [])), (1509, (.aload_n 1, 1510, 0, 0, 0, [], [true, true, true, true])), (1510, (.aload_n 0, 1511, 0, 0, 0, [], [])), (1511, (.iload_n 3, 1512, 0, 0, 0, [], [])), (1512, (.iconst 1, 1513, 0, 1, 0, [], [])), (1513, (.iadd, 1514, 0, 0, 0, [], [])), (1514, (.iaload, 1515, 0, 0, 0, [], [])), (1515, (.invokevirtual 201, 1518, 0, 0, 0, [], [])), (1518, (.aload_n 2, 1519, 0, 0, 0, [], [])), (1519, (.aload_n 0, 1520, 0, 0, 0, [], [])), (1520, (.iload_n 3, 1521, 0, 0, 0, [], [])), (1521, (.iconst 1, 1522, 0, 1, 0, [], [])), (1522, (.iadd, 1523, 0, 0, 0, [], [])), (1523, (.iaload, 1524, 0, 0, 0, [], [])), (1524, (.invokevirtual 204, 1527, 0, 0, 0, [], [])), (1527, (.if_icmp .eq 54, 1530, 1581, 0, 0, [], [])), (1530, (.iconst 0, 1531, 0, 0, 0, [], [])), (1531, (.ireturn, 1532, 0, 0, 0, [], [])), (1532, (.aload_n 1, 1533, 0, 0, 0, [], [true, true, true, true])), (1533, (.aload_n 0, 1534, 0, 0, 0, [], [])), (1534, (.iload_n 3, 1535, 0, 0, 0, [], [])), (1535, (.iconst 1, 1536, 0, 1, 0, [], []))]
noncomputable def zI_281_48 : List (Nat × zE) := [(1536, (.iadd, 1537, 0, 0, 0, [], [])), (1537, (.iaload, 1538, 0, 0, 0, [], [])), (1538, (.invokevirtual 205, 1541, 0, 0, 0, [], [])), (1541, (.aload_n 2, 1542, 0, 0, 0, [], [])), (1542, (.aload_n 0, 1543, 0, 0, 0, [], [])), (1543, (.iload_n 3, 1544, 0, 0, 0, [], [])), (1544, (.iconst 1, 1545, 0, 1, 0, [], [])), (1545, (.iadd, 1546, 0, 0, 0, [], [])), (1546, (.iaload, 1547, 0, 0, 0, [], [])), (1547, (.invokevirtual 208, 1550, 0, 0, 0, [], [])), (1550, (.if_icmp .eq 31, 1553, 1581, 0, 0, [], [])), (1553, (.iconst 0, 1554, 0, 0, 0, [], [])), (1554, (.ireturn, 1555, 0, 0, 0, [], [])), (1555, (.aload_n 1, 1556, 0, 0, 0, [], [true, true, true, true])), (1556, (.invokevirtual 209, 1559, 0, 0, 0, [], [])), (1559, (.aload_n 2, 1560, 0, 0, 0, [], [])), (1560, (.invokevirtual 212, 1563, 0, 0, 0, [], [])), (1563, (.if_icmp .eq 18, 1566, 1581, 0, 0, [], [])), (1566, (.iconst 0, 1567, 0, 0, 0, [], [])), (1567, (.ireturn, 1568, 0, 0, 0, [], []))]
noncomputable def zI_281_49 : List (Nat × zE) := [(1568, (.aload_n 1, 1569, 0, 0, 0, [], [true, true, true, true])), (1569, (.invokevirtual 213, 1572, 0, 0, 0, [], [])), (1572, (.aload_n 2, 1573, 0, 0, 0, [], [])), (1573, (.invokevirtual 216, 1576, 0, 0, 0, [], [])), (1576, (.if_icmp .eq 5, 1579, 1581, 0, 0, [], [])), (1579, (.iconst 0, 1580, 0, 0, 0, [], [])), (1580, (.ireturn, 1581, 0, 0, 0, [], [])), (1581, (.iinc 3 5, 1584, 0, 5, 0, [], [true, true, true, true])), (1584, (.goto (-1566), 1587, 18, 0, 0, [], [])), (1587, (.iconst 1, 1588, 0, 1, 0, [], [])), (1588, (.ireturn, 1589, 0, 0, 0, [], []))]
noncomputable def zI_281 : List (List (Nat × zE)) := [zI_281_0, zI_281_1, zI_281_2, zI_281_3, zI_281_4, zI_281_5, zI_281_6, zI_281_7, zI_281_8, zI_281_9, zI_281_10, zI_281_11, zI_281_12, zI_281_13, zI_281_14, zI_281_15, zI_281_16, zI_281_17, zI_281_18, zI_281_19, zI_281_20, zI_281_21, zI_281_22, zI_281_23, zI_281_24, zI_281_25, zI_281_26, zI_281_27, zI_281_28, zI_281_29, zI_281_30, zI_281_31, zI_281_32, zI_281_33, zI_281_34, zI_281_35, zI_281_36, zI_281_37, zI_281_38, zI_281_39, zI_281_40, zI_281_41, zI_281_42, zI_281_43, zI_281_44, zI_281_45, zI_281_46, zI_281_47, zI_281_48, zI_281_49]
noncomputable abbrev zT_281 : zT := (15, zI_281, 3, 4) -- L_law
noncomputable def zTL : List zT := [zT_0, zT_1, zT_2, zT_3, zT_4, zT_5, zT_6, zT_7, zT_8, zT_9, zT_10, zT_11, zT_12, zT_13, zT_14, zT_15, zT_16, zT_17, zT_18, zT_19, zT_20, zT_21, zT_22, zT_23, zT_24, zT_25, zT_26, zT_27, zT_28, zT_29, zT_30, zT_31, zT_32, zT_33, zT_34, zT_35, zT_36, zT_37, zT_38, zT_39, zT_40, zT_41, zT_42, zT_43, zT_44, zT_45, zT_46, zT_47, zT_48, zT_49, zT_50, zT_51, zT_52, zT_53, zT_54, zT_55, zT_56, zT_57, zT_58, zT_59, zT_60, zT_61, zT_62, zT_63, zT_64, zT_65, zT_66, zT_67, zT_68, zT_69, zT_70, zT_71, zT_72, zT_73, zT_74, zT_75, zT_76, zT_77, zT_78, zT_79, zT_80, zT_81, zT_82, zT_83, zT_84, zT_85, zT_86, zT_87, zT_88, zT_89, zT_90, zT_91, zT_92, zT_93, zT_94, zT_95, zT_96, zT_97, zT_98, zT_99, zT_100, zT_101, zT_102, zT_103, zT_104, zT_105, zT_106, zT_107, zT_108, zT_109, zT_110, zT_111, zT_112, zT_113, zT_114, zT_115, zT_116, zT_117, zT_118, zT_119, zT_120, zT_121, zT_122, zT_123, zT_124, zT_125, zT_126, zT_127, zT_128, zT_129, zT_130, zT_131, zT_132, zT_133, zT_134, zT_135, zT_136, zT_137, zT_138, zT_139, zT_140, zT_141, zT_142, zT_143, zT_144, zT_145, zT_146, zT_147, zT_148, zT_149, zT_150, zT_151, zT_152, zT_153, zT_154, zT_155, zT_156, zT_157, zT_158, zT_159, zT_160, zT_161, zT_162, zT_163, zT_164, zT_165, zT_166, zT_167, zT_168, zT_169, zT_170, zT_171, zT_172, zT_173, zT_174, zT_175, zT_176, zT_177, zT_178, zT_179, zT_180, zT_181, zT_182, zT_183, zT_184, zT_185, zT_186, zT_187, zT_188, zT_189, zT_190, zT_191, zT_192, zT_193, zT_194, zT_195, zT_196, zT_197, zT_198, zT_199, zT_200, zT_201, zT_202, zT_203, zT_204, zT_205, zT_206, zT_207, zT_208, zT_209, zT_210, zT_211, zT_212, zT_213, zT_214, zT_215, zT_216, zT_217, zT_218, zT_219, zT_220, zT_221, zT_222, zT_223, zT_224, zT_225, zT_226, zT_227, zT_228, zT_229, zT_230, zT_231, zT_232, zT_233, zT_234, zT_235, zT_236, zT_237, zT_238, zT_239, zT_240, zT_241, zT_242, zT_243, zT_244, zT_245, zT_246, zT_247, zT_248, zT_249, zT_250, zT_251, zT_252, zT_253, zT_254, zT_255, zT_256, zT_257, zT_258, zT_259, zT_260, zT_261, zT_262, zT_263, zT_264, zT_265, zT_266, zT_267, zT_268, zT_269, zT_270, zT_271, zT_272, zT_273, zT_274, zT_275, zT_276, zT_277, zT_278, zT_279, zT_280, zT_281]
abbrev zMAX : Nat := 272
abbrev zMIN : Nat := 273
end
section
/-- a step ends here, or goes on at one place -/
def zFa (F : zKt → zR) : Prop := (∃ r, ∀ K, F K = r) ∨ (∃ pc ls st σ, ∀ K, F K = K pc ls st σ)
theorem zFa_c {r : zR} : zFa (fun _ => r) := Or.inl ⟨r, fun _ => rfl⟩
theorem zFa_k {pc ls st σ} : zFa (fun K => K pc ls st σ) := Or.inr ⟨pc, ls, st, σ, fun _ => rfl⟩
theorem zFa_b {b : Bool} {F G : zKt → zR} (hF : zFa F) (hG : zFa G) : zFa (fun K => bif b then F K else G K) := by
  cases b
  · exact hG
  · exact hF
theorem zFa_z {b : Bool} {F G : zKt → zR} (hF : zFa F) (hG : zFa G) : zFa (fun K => zcb b (F K) (G K)) := by
  cases b
  · exact hG
  · exact hF
theorem zFa_g {b : Bool} {F : zKt → zR} (hF : zFa F) : zFa (fun K => zgd b (F K)) := by
  simp only [zgd_eq]
  exact zFa_z hF zFa_c
theorem zFa_i {P : Prop} {h : Decidable P} {F G : zKt → zR} (hF : zFa F) (hG : zFa G) : zFa (fun K => @ite _ P h (F K) (G K)) := by
  by_cases q : P
  · simp only [if_pos q]; exact hF
  · simp only [if_neg q]; exact hG
theorem zFa_o1 {st} {f : zKt → Int32 → List zV → zR} (h : ∀ x r, zFa (fun K => f K x r)) : zFa (fun K => zo1 st (f K)) := by
  unfold zo1; split
  · exact h _ _
  · exact zFa_c
theorem zFa_o2 {st} {f : zKt → Int32 → Int32 → List zV → zR} (h : ∀ y x r, zFa (fun K => f K y x r)) : zFa (fun K => zo2 st (f K)) := by
  unfold zo2; split
  · exact h _ _ _
  · exact zFa_c
theorem zFa_l1 {st} {f : zKt → Int64 → List zV → zR} (h : ∀ x r, zFa (fun K => f K x r)) : zFa (fun K => zl1 st (f K)) := by
  unfold zl1; split
  · exact h _ _
  · exact zFa_c
theorem zFa_l2 {st} {f : zKt → Int64 → Int64 → List zV → zR} (h : ∀ y x r, zFa (fun K => f K y x r)) : zFa (fun K => zl2 st (f K)) := by
  unfold zl2; split
  · exact h _ _ _
  · exact zFa_c
theorem zFa_li {st} {f : zKt → Int32 → Int64 → List zV → zR} (h : ∀ y x r, zFa (fun K => f K y x r)) : zFa (fun K => zli st (f K)) := by
  unfold zli; split
  · exact h _ _ _
  · exact zFa_c
theorem zFa_r1 {st} {f : zKt → Nat → Nat → List zV → zR} (h : ∀ y x r, zFa (fun K => f K y x r)) : zFa (fun K => zr1 st (f K)) := by
  unfold zr1; split
  · exact h _ _ _
  · exact zFa_c
theorem zFa_ir {st} {f : zKt → Int32 → Nat → Nat → List zV → zR} (h : ∀ i y x r, zFa (fun K => f K i y x r)) : zFa (fun K => zir st (f K)) := by
  unfold zir; split
  · exact h _ _ _ _
  · exact zFa_c
theorem zFa_iir {st} {f : zKt → Int32 → Int32 → Nat → Nat → List zV → zR} (h : ∀ v i y x r, zFa (fun K => f K v i y x r)) : zFa (fun K => ziir st (f K)) := by
  unfold ziir; split
  · exact h _ _ _ _ _
  · exact zFa_c
theorem zFa_lir {st} {f : zKt → Int64 → Int32 → Nat → Nat → List zV → zR} (h : ∀ v i y x r, zFa (fun K => f K v i y x r)) : zFa (fun K => zlir st (f K)) := by
  unfold zlir; split
  · exact h _ _ _ _ _
  · exact zFa_c
theorem zFa_vI {v} {f : zKt → Int32 → zR} (h : ∀ x, zFa (fun K => f K x)) : zFa (fun K => zvI v (f K)) := by
  unfold zvI; split
  · exact h _
  · exact zFa_c
theorem zFa_vL {v} {f : zKt → Int64 → zR} (h : ∀ x, zFa (fun K => f K x)) : zFa (fun K => zvL v (f K)) := by
  unfold zvL; split
  · exact h _
  · exact zFa_c
theorem zFa_vR {v} {f : zKt → Nat → Nat → zR} (h : ∀ g x, zFa (fun K => f K g x)) : zFa (fun K => zvR v (f K)) := by
  unfold zvR; split
  · exact h _ _
  · exact zFa_c
theorem zFa_sw {x df l} {f : zKt → Nat → zR} (h : ∀ t, zFa (fun K => f K t)) : zFa (fun K => zsw (f K) x df l) := by
  induction l with
  | nil => exact h df
  | cons a l ih =>
    obtain ⟨v, t⟩ := a
    unfold zsw
    exact zFa_i (h t) ih
theorem zFa_cal {rk nx ls rest x} : zFa (fun K => zcal rk nx K ls rest x) := by
  unfold zcal; split <;> exact zFa_k
theorem zFa_inv {C : zC} {own nx i vf ls st σ} : zFa (fun K => zinv C own nx i vf K ls st σ) := by
  unfold zinv
  cases zmd own i with
  | none => exact zFa_c
  | some q =>
    obtain ⟨j, n, rc⟩ := q
    dsimp only
    cases zpop n st [] with
    | none => exact zFa_c
    | some w =>
      obtain ⟨as, rest⟩ := w
      refine zFa_z ?_ zFa_c
      cases C j as σ with
      | none => exact zFa_c
      | some x => exact zFa_cal
theorem zFa_op {C : zC} {own rk ls st σ} (e : zE) : zFa (fun K => zop C own rk K ls st σ e) := by
  obtain ⟨ins, nx, tg, c, d, sw, mk⟩ := e
  cases ins
  case ifCond cnd off => cases cnd <;> exact zFa_o1 fun _ _ => zFa_i zFa_k zFa_k
  case if_icmp cnd off => cases cnd <;> exact zFa_o2 fun _ _ _ => zFa_i zFa_k zFa_k
  case iadd => exact zFa_o2 fun _ _ _ => zFa_k
  case isub => exact zFa_o2 fun _ _ _ => zFa_k
  case imul => exact zFa_o2 fun _ _ _ => zFa_k
  case iand => exact zFa_o2 fun _ _ _ => zFa_k
  case ior => exact zFa_o2 fun _ _ _ => zFa_k
  case ixor => exact zFa_o2 fun _ _ _ => zFa_k
  case ishl => exact zFa_o2 fun _ _ _ => zFa_k
  case ishr => exact zFa_o2 fun _ _ _ => zFa_k
  case iushr => exact zFa_o2 fun _ _ _ => zFa_k
  case idiv => exact zFa_o2 fun _ _ _ => zFa_i zFa_c zFa_k
  case irem => exact zFa_o2 fun _ _ _ => zFa_i zFa_c zFa_k
  case ineg => exact zFa_o1 fun _ _ => zFa_k
  case i2l => exact zFa_o1 fun _ _ => zFa_k
  case i2b => exact zFa_o1 fun _ _ => zFa_k
  case i2s => exact zFa_o1 fun _ _ => zFa_k
  case i2c => exact zFa_o1 fun _ _ => zFa_k
  case istore => exact zFa_o1 fun _ _ => zFa_k
  case istore_n => exact zFa_o1 fun _ _ => zFa_k
  case lstore_n => exact zFa_l1 fun _ _ => zFa_k
  case l2i => exact zFa_l1 fun _ _ => zFa_k
  case ladd => exact zFa_l2 fun _ _ _ => zFa_k
  case lmul => exact zFa_l2 fun _ _ _ => zFa_k
  case land => exact zFa_l2 fun _ _ _ => zFa_k
  case lor => exact zFa_l2 fun _ _ _ => zFa_k
  case lcmp => exact zFa_l2 fun _ _ _ => zFa_k
  case lshl => exact zFa_li fun _ _ _ => zFa_k
  case lshr => exact zFa_li fun _ _ _ => zFa_k
  case lushr => exact zFa_li fun _ _ _ => zFa_k
  case iload => exact zFa_vI fun _ => zFa_k
  case iload_n => exact zFa_vI fun _ => zFa_k
  case iinc => exact zFa_vI fun _ => zFa_k
  case lload => exact zFa_vL fun _ => zFa_k
  case lload_n => exact zFa_vL fun _ => zFa_k
  case aload_n => exact zFa_vR fun _ _ => zFa_z zFa_c zFa_k
  case iconst => exact zFa_k
  case bipush => exact zFa_k
  case sipush => exact zFa_k
  case lconst => exact zFa_k
  case ldc_w => exact zFa_k
  case ldc2_w => exact zFa_k
  case goto => exact zFa_k
  case ldc i =>
    simp only [zop]
    split <;> exact zFa_k
  case dup =>
    simp only [zop]
    split <;> first | exact zFa_k | exact zFa_c
  case pop =>
    simp only [zop]
    split <;> first | exact zFa_k | exact zFa_c
  case dup2 => exact zFa_ir fun _ _ _ _ => zFa_k
  case tableswitch => exact zFa_o1 fun _ _ => zFa_sw fun _ => zFa_k
  case lookupswitch => exact zFa_o1 fun _ _ => zFa_sw fun _ => zFa_k
  case invokevirtual => exact zFa_inv
  case invokestatic => exact zFa_inv
  case ireturn =>
    simp only [zop]
    split
    · split <;> exact zFa_c
    · exact zFa_c
  case lreturn =>
    simp only [zop]
    split <;> exact zFa_c
  case return_ =>
    simp only [zop]
    split <;> exact zFa_c
  case getfield i =>
    refine zFa_r1 fun g k r => ?_
    split
    · exact zFa_c
    · split
      · refine zFa_z ?_ zFa_c
        split <;> exact zFa_k
      · refine zFa_z ?_ zFa_c
        split <;> exact zFa_k
      · exact zFa_c
  case putfield i =>
    simp only [zop]
    split
    · split
      · exact zFa_c
      · split
        · exact zFa_z (zFa_z (zFa_g zFa_k) zFa_k) zFa_c
        · exact zFa_c
    · exact zFa_c
  case getstatic i =>
    simp only [zop]
    split <;> first | exact zFa_k | exact zFa_c
  case iaload =>
    refine zFa_ir fun i g k r => ?_
    split
    · split
      · exact zFa_g zFa_k
      · exact zFa_z zFa_k zFa_c
    · exact zFa_g zFa_k
    · exact zFa_c
  case laload =>
    refine zFa_ir fun i g k r => ?_
    split <;> first | exact zFa_g zFa_k | exact zFa_c
  case aaload =>
    refine zFa_ir fun i g k r => ?_
    split <;> first | exact zFa_g zFa_k | exact zFa_c
  case baload =>
    refine zFa_ir fun i g k r => ?_
    split <;> first | exact zFa_g zFa_k | exact zFa_c
  case iastore =>
    refine zFa_iir fun v i g k r => ?_
    split
    · split
      · exact zFa_g zFa_k
      · exact zFa_z zFa_k zFa_c
    · exact zFa_c
  case lastore =>
    refine zFa_lir fun v i g k r => ?_
    split <;> first | exact zFa_g zFa_k | exact zFa_c
  case arraylength =>
    refine zFa_r1 fun g k r => ?_
    split <;> first | exact zFa_k | exact zFa_c
  all_goals exact zFa_c
theorem zFa_st {C : zC} {T : zT} {pc ls st σ} : zFa (fun K => zst C T K pc ls st σ) := by
  unfold zst
  split
  · exact zFa_c
  · exact zFa_op _
theorem zrF_mono {C : zC} {T : zT} : ∀ (n : Nat) {pc ls st σ r}, zrF C T n pc ls st σ = some r → zrF C T (n + 1) pc ls st σ = some r
  | 0, _, _, _, _, _, h => by cases h
  | n + 1, pc, ls, st, σ, r, h => by
    rcases zFa_st (C := C) (T := T) (pc := pc) (ls := ls) (st := st) (σ := σ) with ⟨q, hq⟩ | ⟨p2, l2, s2, m2, hq⟩
    · exact (hq (zrF C T (n + 1))).trans ((hq (zrF C T n)).symm.trans h)
    · exact (hq (zrF C T (n + 1))).trans (zrF_mono n ((hq (zrF C T n)).symm.trans h))
theorem zrF_add {C : zC} {T : zT} {n : Nat} {pc ls st σ r} (h : zrF C T n pc ls st σ = some r) : ∀ k, zrF C T (n + k) pc ls st σ = some r
  | 0 => h
  | k + 1 => zrF_mono (n + k) (zrF_add h k)
theorem zrF_det {C : zC} {T : zT} {n m : Nat} {pc ls st σ r q} (h : zrF C T n pc ls st σ = some r) (h2 : zrF C T m pc ls st σ = some q) : r = q := by
  have a := zrF_add h m
  have b := zrF_add h2 n
  rw [Nat.add_comm] at b
  exact Option.some.inj (a.symm.trans b)
theorem zrun_of {C : zC} {T : zT} {n : Nat} {pc ls st σ r} (h : zrF C T n pc ls st σ = some r) : zrun C T pc ls st σ = some r := by
  have hx : ∃ r, ∃ n, zrF C T n pc ls st σ = some r := ⟨r, n, h⟩
  have e : zrun C T pc ls st σ = some (Classical.choose hx) := by
    unfold zrun
    exact dif_pos hx
  obtain ⟨m, hm⟩ := Classical.choose_spec hx
  rw [e, zrF_det hm h]
theorem zrun_some {C : zC} {T : zT} {pc ls st σ r} (h : zrun C T pc ls st σ = some r) : ∃ n, zrF C T n pc ls st σ = some r := by
  by_cases hx : ∃ r, ∃ n, zrF C T n pc ls st σ = some r
  · obtain ⟨q, n, hq⟩ := hx
    rw [zrun_of hq] at h
    exact ⟨n, by rw [hq]; exact h⟩
  · unfold zrun at h
    rw [dif_neg hx] at h
    cases h
theorem zrun_none {C : zC} {T : zT} {pc ls st σ} (h : ∀ n, zrF C T n pc ls st σ = none) : zrun C T pc ls st σ = none := by
  cases e : zrun C T pc ls st σ with
  | none => rfl
  | some r =>
    obtain ⟨n, hn⟩ := zrun_some e
    rw [h n] at hn
    cases hn
theorem zrun_step (C : zC) (T : zT) (pc ls st σ) : zrun C T pc ls st σ = zst C T (zrun C T) pc ls st σ := by
  rcases zFa_st (C := C) (T := T) (pc := pc) (ls := ls) (st := st) (σ := σ) with ⟨q, hq⟩ | ⟨p2, l2, s2, m2, hq⟩
  · rw [show zst C T (zrun C T) pc ls st σ = q from hq _]
    cases q with
    | none =>
      refine zrun_none fun n => ?_
      cases n with
      | zero => rfl
      | succ n => exact hq _
    | some r => exact zrun_of (n := 1) (hq _)
  · rw [show zst C T (zrun C T) pc ls st σ = zrun C T p2 l2 s2 m2 from hq _]
    cases e : zrun C T p2 l2 s2 m2 with
    | some r =>
      obtain ⟨n, hn⟩ := zrun_some e
      exact zrun_of (n := n + 1) ((hq _).trans hn)
    | none =>
      refine zrun_none fun n => ?_
      cases n with
      | zero => rfl
      | succ n =>
        refine (hq _).trans ?_
        cases e2 : zrF C T n p2 l2 s2 m2 with
        | none => rfl
        | some r => rw [zrun_of e2] at e; cases e
theorem zit_run (C : zC) (T : zT) (cuts : List Nat) : ∀ n pc ls st σ, zit C T cuts n pc ls st σ = zrun C T pc ls st σ
  | 0, _, _, _, _ => rfl
  | n + 1, pc, ls, st, σ => by
    show zcb (cuts.any (Nat.beq pc)) (zrun C T pc ls st σ) (zst C T (zit C T cuts n) pc ls st σ) = _
    cases cuts.any (Nat.beq pc)
    · show zst C T (zit C T cuts n) pc ls st σ = _
      rw [zrun_step, show zit C T cuts n = zrun C T from funext fun a => funext fun b => funext fun c => funext fun d => zit_run C T cuts n a b c d]
    · rfl
theorem zrun_eq (C : zC) (T : zT) (cuts : List Nat) (n : Nat) (pc ls st σ) : zrun C T pc ls st σ = zst C T (zit C T cuts n) pc ls st σ := by
  rw [zrun_step, show zit C T cuts n = zrun C T from funext fun a => funext fun b => funext fun c => funext fun d => zit_run C T cuts n a b c d]
/-- a method's locals at its start -/
def zent : List zV → List (Option zV)
  | [] => []
  | .inr (.inl x) :: r => some (.inr (.inl x)) :: none :: zent r
  | v :: r => some v :: zent r
def zpad (n : Nat) (l : zL) : zL := l ++ List.replicate (n - l.length) none
/-- System.arraycopy over ints -/
def zcop (σ : zM) (g k sp g2 k2 dp n : Nat) : zM := (fun g' k' i' => if g' = g2 ∧ k' = k2 ∧ dp ≤ i' ∧ i' < dp + n then σ.1 g k (sp + (i' - dp)) else σ.1 g' k' i', σ.2)
def zcopy : List zV → zM → zR
  | [.inr (.inr (g, k)), .inl sp, .inr (.inr (g2, k2)), .inl dp, .inl n], σ => match zkd k, zkd k2 with
    | (1, a), (1, b) => bif decide (0 ≤ sp) && decide (0 ≤ dp) && decide (0 ≤ n) && Nat.ble (sp.toNatClampNeg + n.toNatClampNeg) a && Nat.ble (dp.toNatClampNeg + n.toNatClampNeg) b then some (0, 0, zcop σ g k sp.toNatClampNeg g2 k2 dp.toNatClampNeg n.toNatClampNeg) else none
    | _, _ => none
  | _, _ => none
def zmx : List zV → zM → zR
  | [.inl x, .inl y], σ => some (if x < y then y else x, 0, σ)
  | _, _ => none
def zmn : List zV → zM → zR
  | [.inl x, .inl y], σ => some (if y < x then y else x, 0, σ)
  | _, _ => none
/-- what isn't run by its code -/
def zbi (j : Nat) : Option (List zV → zM → zR) := bif Nat.beq j zNAC then some zcopy else bif Nat.beq j zMAX then some zmx else bif Nat.beq j zMIN then some zmn else none
/-- a call of method j, d calls deep at most -/
noncomputable def zev : Nat → zC
  | 0 => fun _ _ _ => none
  | d + 1 => fun j as σ => match zbi j with
    | some f => f as σ
    | none => match zTL[j]? with
      | none => none
      | some T => zrun (zev d) T 0 (zpad T.2.2.2 (zent as)) [] σ
theorem zev_m {d j : Nat} {T : zT} {as σ} (h : zTL[j]? = some T) (hj : zbi j = none) : zev (d + 1) j as σ = zrun (zev d) T 0 (zpad T.2.2.2 (zent as)) [] σ := by
  show (match zbi j with | some f => f as σ | none => _) = _
  rw [hj, h]
theorem zev_b {d j : Nat} {f} {as σ} (hj : zbi j = some f) : zev (d + 1) j as σ = f as σ := by
  show (match zbi j with | some f => f as σ | none => _) = _
  rw [hj]
end
section
/-! The machine's side: what a memory is in the heap, what a method's words give -/
abbrev zEn : Type := (Nat → Nat → Nat) × (Nat → ClassId) × va_G × Value
def zvv (E : zEn) : zV → Value
  | .inl x => .int x
  | .inr (.inl x) => .long x
  | .inr (.inr (g, k)) => bif Nat.beq k 99 then E.2.2.2 else .ref (E.1 g k)
def zFv (E : zEn) (σ : zM) (g k j : Nat) : Value := match zed k j with
  | none => .int (σ.1 g k j)
  | some (none, k2) => .ref (E.1 g k2)
  | some (some g2, k2) => .ref (E.1 g2 k2)
def zAt (E : zEn) (σ : zM) (g k : Nat) (H : Heap) : Prop := match zkd k with
  | (0, ci) => t_OB (E.1 g k) (E.2.2.1.1 ci) (zNF ci) (E.2.2.1.2 ci) H (zFv E σ g k)
  | (1, n) => H[E.1 g k]? = some (arrV (E.2.1 1) n fun j => .int (σ.1 g k j))
  | (2, n) => H[E.1 g k]? = some (arrV (E.2.1 2) n fun j => .long (σ.2 g k j))
  | (3, n) => H[E.1 g k]? = some (arrV (E.2.1 3) n fun j => .ref (E.1 j (k + 1)))
  | (4, n) => H[E.1 g k]? = some (arrV (E.2.1 4) n fun j => .ref (E.1 j (k + 1)))
  | _ => True
def zA (E : zEn) : Nat → Prop := fun q => ∃ g k, g < zNI k ∧ q = E.1 g k
def zHp (E : zEn) (σ : zM) (H : Heap) : Prop := ∀ g k, g < zNI k → zAt E σ g k H
def zIj (E : zEn) : Prop := ∀ g k g' k', g < zNI k → g' < zNI k' → E.1 g k = E.1 g' k' → g = g' ∧ k = k'
def zK (E : zEn) (U : State) : Prop := (∀ (c : Nat) (q : vw_C), zCl[c]? = some q → u_Kn U q.1 q.2.1 q.2.2 (E.2.2.1.1 c) (E.2.2.1.2 c)) ∧ ArrOfT U (E.2.1 1) .int ∧ ArrOfT U (E.2.1 2) .long ∧ ArrOfT U (E.2.1 3) (.array .int) ∧ ArrOfT U (E.2.1 4) (.array .long) ∧ ∀ q ∈ zNest, va_Nw (.methodLinkNest q.1 q.2.1 q.2.2.1 q.2.2.2) U
theorem zK.moved {E : zEn} {u U : State} (hW : u.WarmedH U.vm) (h : zK E u) : zK E U := by
  obtain ⟨h1, h2, h3, h4, h5, h6⟩ := h
  have hvm := hW.alike
  exact ⟨fun c q hq => u_Kn_moved hvm (h1 c q hq), arrOfT_moved hvm h2, arrOfT_moved hvm h3, arrOfT_moved hvm h4, arrOfT_moved hvm h5, fun q hq => (h6 q hq).warmM hW⟩
theorem zK.same {E : zEn} {u U : State} (hv : u.vm = U.vm) (h : zK E u) : zK E U := by
  obtain ⟨h1, h2, h3, h4, h5, h6⟩ := h
  have hvm : u.vm.Alike U.vm := by rw [hv]; exact Vm.Alike.refl _
  exact ⟨fun c q hq => u_Kn_moved hvm (h1 c q hq), arrOfT_moved hvm h2, arrOfT_moved hvm h3, arrOfT_moved hvm h4, arrOfT_moved hvm h5, fun q hq => (h6 q hq).same rfl hv⟩
/-- the texts, and the statics that are read -/
def zTx (E : zEn) (A : Nat → Prop) (U : State) (H : Heap) : Prop := vk_S 18 (zSL.map List.length) zSL (fun j => E.1 j 95) (fun j => E.1 j 96) A U H ∧ (∀ q ∈ zSI, vk_R RX10 q.1 q.2.1 (E.1 q.2.2 95) U) ∧ va_Z "java/lang/String" "COMPACT_STRINGS" "Z" (.int 1) A U H ∧ va_Z "jdk/internal/util/Preconditions" "SIOOBE_FORMATTER" "Ljava/util/function/BiFunction;" E.2.2.2 A U H ∧ E.2.2.2.category = 1
theorem zTx.moved {E : zEn} {A : Nat → Prop} {u U : State} {H : Heap} (hW : u.WarmedH U.vm) (h : zTx E A u H) : zTx E A U H := by
  obtain ⟨h1, h2, h3, h4, h5⟩ := h
  exact ⟨h1.moved hW.alike, fun q hq => (h2 q hq).warm hW, h3.moved hW.alike, h4.moved hW.alike, h5⟩
theorem zTx.same {E : zEn} {A : Nat → Prop} {u U : State} {H : Heap} (hv : u.vm = U.vm) (h : zTx E A u H) : zTx E A U H := by
  obtain ⟨h1, h2, h3, h4, h5⟩ := h
  have hvm : u.vm.Alike U.vm := by rw [hv]; exact Vm.Alike.refl _
  exact ⟨h1.moved hvm, fun q hq => (h2 q hq).same hv.symm, h3.moved hvm, h4.moved hvm, h5⟩
theorem zTx.kept {E : zEn} {A : Nat → Prop} {U : State} {H H1 : Heap} (hq : ∀ a : Nat, a < H.size → ¬ A a → H1[a]? = H[a]?) (h : zTx E A U H) : zTx E A U H1 := by
  obtain ⟨h1, h2, h3, h4, h5⟩ := h
  exact ⟨h1.kept hq, h2, h3.kept hq, h4.kept hq, h5⟩
theorem zTx.narrow {E : zEn} {A B : Nat → Prop} {U : State} {H : Heap} (hAB : ∀ q, B q → A q) (h : zTx E A U H) : zTx E B U H := by
  obtain ⟨h1, h2, h3, h4, h5⟩ := h
  exact ⟨h1.narrow hAB, h2, h3.narrow hAB, h4.narrow hAB, h5⟩
/-- the cells of a memory, in a state -/
def zWd (E : zEn) (σ : zM) (U : State) : Prop := zHp E σ U.heap ∧ zIj E ∧ zK E U ∧ zTx E (zA E) U U.heap
def zPc (E : zEn) (as : List zV) (σ : zM) : Array Value → State → Prop := fun v U => v = (as.map (zvv E)).toArray ∧ zWd E σ U
def zrv (rk : Nat) (r : Int32 × Int64 × zM) : Option Value := match rk with
  | 0 => none
  | 2 => some (.long r.2.1)
  | _ => some (.int r.1)
def zQc (E : zEn) (rk : Nat) (r : Int32 × Int64 × zM) : Array Value → State → Outcome → State → Prop := fun _ st oc t => oc = .returned (zrv rk r) ∧ zHp E r.2.2 t.heap ∧ t.heap.size = st.heap.size ∧ ∀ q : Nat, q < st.heap.size → ¬ zA E q → t.heap[q]? = st.heap[q]?
def zRm (d : Nat) : Room := { frames := d, cells := 0, slots := 0, locals := 60 * d }
/-- a method's contract, at one start: name, code, locals, what comes back -/
def zMt (l : Launch) (E : zEn) (d : Nat) (q : MethodName × ByteArray × Nat × Option FieldType) (rk : Nat) (as : List zV) (σ : zM) (r : Int32 × Int64 × zM) : Prop :=
  Met l q.1 (Cond.code q.1 q.2.1 q.2.2.1 q.2.2.2 :: zGW) (zRm d) (zPc E as σ) (zQc E rk r) 0 0 (zA E)
/-- a value that may stand in a method -/
def zokv (sb : Bool) : zV → Prop
  | .inr (.inr (g, k)) => match (zkd k).1 with
    | 5 => sb = true ∧ g = 0 ∧ k = 90
    | 6 => g < 18 ∧ k = 95
    | 7 => g < 18 ∧ k = 96
    | 9 => True
    | _ => g < zNI k
  | _ => True
/-- locals, as the kit lists them -/
def zls (E : zEn) : Nat → zL → List (Nat × Value)
  | _, [] => []
  | i, none :: r => zls E (i + 1) r
  | i, some v :: r => (i, zvv E v) :: zls E (i + 1) r
theorem zls_get {E : zEn} : ∀ {ls : zL} {b i : Nat} {v : zV}, zget ls i = some v → (b + i, zvv E v) ∈ zls E b ls
  | [], _, _, _, h => by cases h
  | none :: r, b, 0, v, h => by cases h
  | some w :: r, b, 0, v, h => by
    cases h
    exact List.mem_cons_self
  | none :: r, b, i + 1, v, h => by
    have := zls_get (E := E) (ls := r) (b := b + 1) h
    rw [show b + (i + 1) = b + 1 + i by omega]
    exact this
  | some w :: r, b, i + 1, v, h => by
    have := zls_get (E := E) (ls := r) (b := b + 1) h
    rw [show b + (i + 1) = b + 1 + i by omega]
    exact List.mem_cons_of_mem _ this
theorem zls_ge {E : zEn} : ∀ {ls : zL} {b : Nat} {q}, q ∈ zls E b ls → b ≤ q.1
  | [], _, _, h => by cases h
  | none :: r, b, q, h => Nat.le_of_succ_le (zls_ge (ls := r) h)
  | some w :: r, b, q, h => by
    rcases List.mem_cons.mp h with h | h
    · rw [h]; exact Nat.le_refl _
    · exact Nat.le_of_succ_le (zls_ge (ls := r) h)
theorem zcat {E : zEn} (hE : E.2.2.2.category = 1) (x : Nat × Nat) : (zvv E (.inr (.inr x))).category = 1 := by
  obtain ⟨g, k⟩ := x
  show (bif Nat.beq k 99 then E.2.2.2 else Value.ref (E.1 g k)).category = 1
  cases Nat.beq k 99
  · rfl
  · exact hE
theorem zls_put {E : zEn} (hE : E.2.2.2.category = 1) : ∀ {ls : zL} {b i : Nat} {v : zV} {q}, q ∈ zls E b (zput ls i v) → q = (b + i, zvv E v) ∨ (q ∈ zls E b ls ∧ ¬ q.1 = b + i ∧ ¬ (q.1 + 1 = b + i ∧ q.2.category = 2))
  | [], b, i, v, q, h => by
    cases i with
    | zero => cases h
    | succ i => cases i <;> cases h
  | a :: r, b, 0, v, q, h => by
    rcases List.mem_cons.mp h with h1 | h1
    · exact Or.inl h1
    · have := zls_ge h1
      refine Or.inr ⟨?_, by omega, fun z => by omega⟩
      cases a with
      | none => exact h1
      | some w => exact List.mem_cons_of_mem _ h1
  | a :: r, b, 1, v, q, h => by
    have key : ∀ {q}, q ∈ zls E (b + 1) (zput r 0 v) → q = (b + 1, zvv E v) ∨ (q ∈ zls E b (a :: r) ∧ ¬ q.1 = b + 1 ∧ ¬ (q.1 + 1 = b + 1 ∧ q.2.category = 2)) := fun {q} h => by
      rcases zls_put hE (ls := r) h with h | ⟨h1, h2, h3⟩
      · exact Or.inl h
      · have := zls_ge h1
        refine Or.inr ⟨?_, by simpa using h2, fun z => by omega⟩
        cases a with
        | none => exact h1
        | some w => exact List.mem_cons_of_mem _ h1
    cases a with
    | none => exact key h
    | some w =>
      rcases w with x | x | x
      · rcases List.mem_cons.mp h with h | h
        · subst h
          exact Or.inr ⟨List.mem_cons_self, by simp, fun z => by simp [zvv, Value.category] at z⟩
        · exact key h
      · exact key h
      · rcases List.mem_cons.mp h with h | h
        · subst h
          refine Or.inr ⟨List.mem_cons_self, by simp, fun z => ?_⟩
          have hz : (zvv E (.inr (.inr x))).category = 2 := z.2
          rw [zcat hE x] at hz
          cases hz
        · exact key h
  | a :: r, b, i + 2, v, q, h => by
    have key : ∀ {q}, q ∈ zls E (b + 1) (zput r (i + 1) v) → q = (b + (i + 2), zvv E v) ∨ (q ∈ zls E b (a :: r) ∧ ¬ q.1 = b + (i + 2) ∧ ¬ (q.1 + 1 = b + (i + 2) ∧ q.2.category = 2)) := fun {q} h => by
      rcases zls_put hE (ls := r) h with h | ⟨h1, h2, h3⟩
      · exact Or.inl (by rw [h]; congr 1; omega)
      · refine Or.inr ⟨?_, fun z => h2 (by omega), fun z => h3 ⟨by omega, z.2⟩⟩
        cases a with
        | none => exact h1
        | some w => exact List.mem_cons_of_mem _ h1
    cases a with
    | none => exact key h
    | some w =>
      rcases List.mem_cons.mp h with h | h
      · subst h
        exact Or.inr ⟨List.mem_cons_self, by simp only []; omega, fun z => by simp only [] at z; omega⟩
      · exact key h
end
section
/-! What is held of the tables by computing: each entry is the method's instruction, each word stands in the claim's tables -/
def zkc (own i : Nat) : Option Int32 := (zKC.find? fun q => Nat.beq q.1 own && Nat.beq q.2.1 i).map fun q => q.2.2
def zkl (own i : Nat) : Option Int64 := (zKL.find? fun q => Nat.beq q.1 own && Nat.beq q.2.1 i).map fun q => q.2.2
def zsk (pc : Nat) : Int → List (Int32 × Nat) → List Int → Bool
  | _, [], [] => true
  | lo, (v, t) :: r, o :: os => decide (v.toInt = lo) && decide ((pc : Int) + o = (t : Int)) && zsk pc (lo + 1) r os
  | _, _, _ => false
def zsl (pc : Nat) : List (Int32 × Nat) → List (Int × Int) → Bool
  | [], [] => true
  | (v, t) :: r, (a, o) :: os => decide (v.toInt = a) && decide ((pc : Int) + o = (t : Int)) && zsl pc r os
  | _, _ => false
def zck1 (own nL pc : Nat) : zE → Bool
  | (ins, nx, tg, c, d, sw, _) => match ins with
    | .iconst n => decide (Int32.ofInt n = c) && Nat.beq nx (pc + 1)
    | .bipush n => decide ((Int8.ofInt n).toInt32 = c) && Nat.beq nx (pc + 2)
    | .sipush n => decide ((Int16.ofInt n).toInt32 = c) && Nat.beq nx (pc + 3)
    | .ldc i => ((zsd own i).isSome || decide (zkc own i = some c)) && Nat.beq nx (pc + 2)
    | .ldc_w i => decide (zkc own i = some c) && Nat.beq nx (pc + 3)
    | .lconst n => decide (Int64.ofNat n.val = d) && Nat.beq nx (pc + 1)
    | .ldc2_w i => decide (zkl own i = some d) && Nat.beq nx (pc + 3)
    | .iload _ => Nat.beq nx (pc + 2)
    | .lload _ => Nat.beq nx (pc + 2)
    | .istore_n a => Nat.blt a.val nL && Nat.beq nx (pc + 1)
    | .istore a => Nat.blt a nL && Nat.beq nx (pc + 2)
    | .lstore_n a => Nat.blt (a.val + 1) nL && Nat.beq nx (pc + 1)
    | .iinc a n => decide (Int32.ofInt n = c) && (Nat.blt a nL && Nat.beq nx (pc + 3))
    | .goto o => decide ((pc : Int) + o = (tg : Int)) && Nat.beq nx (pc + 3)
    | .ifCond _ o => decide ((pc : Int) + o = (tg : Int)) && Nat.beq nx (pc + 3)
    | .if_icmp _ o => decide ((pc : Int) + o = (tg : Int)) && Nat.beq nx (pc + 3)
    | .tableswitch df lo hi os => decide ((pc : Int) + df = (tg : Int)) && (decide (hi = lo + (os.toList.length : Int) - 1) && zsk pc lo sw os.toList)
    | .lookupswitch df ps => decide ((pc : Int) + df = (tg : Int)) && ((ps.toList.zip (ps.toList.drop 1)).all (fun (a, next) => a.1 < next.1) && zsl pc sw ps.toList)
    | .getfield _ => Nat.beq nx (pc + 3)
    | .putfield _ => Nat.beq nx (pc + 3)
    | .getstatic _ => Nat.beq nx (pc + 3)
    | .invokevirtual _ => Nat.beq nx (pc + 3)
    | .invokestatic _ => Nat.beq nx (pc + 3)
    | _ => Nat.beq nx (pc + 1)
def zck (b : ByteArray) (own nL : Nat) (q : Nat × zE) : Bool := decide (decode b q.1 = .ok (q.2.1, q.2.2.1 - q.1)) && zck1 own nL q.1 q.2
/-- the instructions that are run: constructors' and others' rows aren't looked at -/
def zckM (b : ByteArray) (T : zT) : Bool := T.2.1.all fun ch => ch.all fun q => match q.2.1 with
  | .new _ => true
  | .invokespecial _ => true
  | .astore_n _ => true
  | .athrow => true
  | _ => zck b T.1 T.2.2.2 q
def zrt (rk : Nat) : Option (Option FieldType) := match rk with
  | 0 => some none
  | 1 => some (some .int)
  | 2 => some (some .long)
  | 3 => some (some .boolean)
  | 4 => some (some .char)
  | 5 => some (some .byte)
  | _ => none
end
section
set_option maxRecDepth 100000
/-- a method's own words and code -/
def zJok (q : MethodName × ByteArray × Nat × Option FieldType) (T : zT) : Prop := Cond.code q.1 q.2.1 q.2.2.1 q.2.2.2 ∈ zGW ∧ Cond.initialized q.1.cls ∈ zGW ∧ plainName q.1.cls = true ∧ q.1.cls = zcn T.1 ∧ q.2.2.1 = T.2.2.2 ∧ T.2.2.2 ≤ 41 ∧ zckM q.2.1 T = true ∧ zrt T.2.2.1 = some q.2.2.2 ∧ (q.1.cls ≠ "java/lang/invoke/MethodHandle" ∧ q.1.cls ≠ "java/lang/invoke/VarHandle")
theorem zJok_0 : zJok (yX0_take, cX0_take, 4, none) zT_0 := ⟨zmem (n := 1115) (by decide +kernel), zmem (n := 105) (by decide +kernel), by decide +kernel, by decide +kernel, rfl, by decide +kernel, by decide +kernel, rfl, by decide +kernel, by decide +kernel⟩
theorem zJok_1 : zJok (yX0_begin, cX0_begin, 2, none) zT_1 := ⟨zmem (n := 1123) (by decide +kernel), zmem (n := 105) (by decide +kernel), by decide +kernel, by decide +kernel, rfl, by decide +kernel, by decide +kernel, rfl, by decide +kernel, by decide +kernel⟩
theorem zJok_2 : zJok (yX0_sways, cX0_sways, 2, (some .int)) zT_2 := ⟨zmem (n := 1119) (by decide +kernel), zmem (n := 105) (by decide +kernel), by decide +kernel, by decide +kernel, rfl, by decide +kernel, by decide +kernel, rfl, by decide +kernel, by decide +kernel⟩
theorem zJok_3 : zJok (yX0_bends, cX0_bends, 2, (some .int)) zT_3 := ⟨zmem (n := 1131) (by decide +kernel), zmem (n := 105) (by decide +kernel), by decide +kernel, by decide +kernel, rfl, by decide +kernel, by decide +kernel, rfl, by decide +kernel, by decide +kernel⟩
theorem zJok_4 : zJok (yX0_shares, cX0_shares, 2, (some .int)) zT_4 := ⟨zmem (n := 1140) (by decide +kernel), zmem (n := 105) (by decide +kernel), by decide +kernel, by decide +kernel, rfl, by decide +kernel, by decide +kernel, rfl, by decide +kernel, by decide +kernel⟩
theorem zJok_5 : zJok (yX0_tells, cX0_tells, 2, (some .int)) zT_5 := ⟨zmem (n := 1152) (by decide +kernel), zmem (n := 105) (by decide +kernel), by decide +kernel, by decide +kernel, rfl, by decide +kernel, by decide +kernel, rfl, by decide +kernel, by decide +kernel⟩
theorem zJok_6 : zJok (yX0_plainSways, cX0_plainSways, 2, (some .int)) zT_6 := ⟨zmem (n := 1127) (by decide +kernel), zmem (n := 105) (by decide +kernel), by decide +kernel, by decide +kernel, rfl, by decide +kernel, by decide +kernel, rfl, by decide +kernel, by decide +kernel⟩
theorem zJok_7 : zJok (yX0_plainBends, cX0_plainBends, 2, (some .int)) zT_7 := ⟨zmem (n := 1135) (by decide +kernel), zmem (n := 105) (by decide +kernel), by decide +kernel, by decide +kernel, rfl, by decide +kernel, by decide +kernel, rfl, by decide +kernel, by decide +kernel⟩
theorem zJok_8 : zJok (yX0_proppedShares, cX0_proppedShares, 2, (some .int)) zT_8 := ⟨zmem (n := 1144) (by decide +kernel), zmem (n := 105) (by decide +kernel), by decide +kernel, by decide +kernel, rfl, by decide +kernel, by decide +kernel, rfl, by decide +kernel, by decide +kernel⟩
theorem zJok_9 : zJok (yX0_plainShares, cX0_plainShares, 2, (some .int)) zT_9 := ⟨zmem (n := 1148) (by decide +kernel), zmem (n := 105) (by decide +kernel), by decide +kernel, by decide +kernel, rfl, by decide +kernel, by decide +kernel, rfl, by decide +kernel, by decide +kernel⟩
theorem zJok_10 : zJok (yX0_plainTells, cX0_plainTells, 2, (some .int)) zT_10 := ⟨zmem (n := 1156) (by decide +kernel), zmem (n := 105) (by decide +kernel), by decide +kernel, by decide +kernel, rfl, by decide +kernel, by decide +kernel, rfl, by decide +kernel, by decide +kernel⟩
theorem zJok_11 : zJok (yX1_copyFrom, cX1_copyFrom, 2, none) zT_11 := ⟨zmem (n := 824) (by decide +kernel), zmem (n := 96) (by decide +kernel), by decide +kernel, by decide +kernel, rfl, by decide +kernel, by decide +kernel, rfl, by decide +kernel, by decide +kernel⟩
theorem zJok_12 : zJok (yX1_grow, cX1_grow, 6, (some .int)) zT_12 := ⟨zmem (n := 500) (by decide +kernel), zmem (n := 96) (by decide +kernel), by decide +kernel, by decide +kernel, rfl, by decide +kernel, by decide +kernel, rfl, by decide +kernel, by decide +kernel⟩
theorem zJok_13 : zJok (yX1_isThere, cX1_isThere, 2, (some .boolean)) zT_13 := ⟨zmem (n := 488) (by decide +kernel), zmem (n := 96) (by decide +kernel), by decide +kernel, by decide +kernel, rfl, by decide +kernel, by decide +kernel, rfl, by decide +kernel, by decide +kernel⟩
theorem zJok_14 : zJok (yX1_isWhole, cX1_isWhole, 2, (some .boolean)) zT_14 := ⟨zmem (n := 492) (by decide +kernel), zmem (n := 96) (by decide +kernel), by decide +kernel, by decide +kernel, rfl, by decide +kernel, by decide +kernel, rfl, by decide +kernel, by decide +kernel⟩
theorem zJok_15 : zJok (yX1_isAbove, cX1_isAbove, 3, (some .boolean)) zT_15 := ⟨zmem (n := 542) (by decide +kernel), zmem (n := 96) (by decide +kernel), by decide +kernel, by decide +kernel, rfl, by decide +kernel, by decide +kernel, rfl, by decide +kernel, by decide +kernel⟩
theorem zJok_16 : zJok (yX1_holdsNow, cX1_holdsNow, 3, (some .int)) zT_16 := ⟨zmem (n := 508) (by decide +kernel), zmem (n := 96) (by decide +kernel), by decide +kernel, by decide +kernel, rfl, by decide +kernel, by decide +kernel, rfl, by decide +kernel, by decide +kernel⟩
theorem zJok_17 : zJok (yX2_lay, cX2_lay, 5, none) zT_17 := ⟨zmem (n := 1051) (by decide +kernel), zmem (n := 104) (by decide +kernel), by decide +kernel, by decide +kernel, rfl, by decide +kernel, by decide +kernel, rfl, by decide +kernel, by decide +kernel⟩
theorem zJok_18 : zJok (yX2_refusalOf, cX2_refusalOf, 3, (some .int)) zT_18 := ⟨zmem (n := 1070) (by decide +kernel), zmem (n := 104) (by decide +kernel), by decide +kernel, by decide +kernel, rfl, by decide +kernel, by decide +kernel, rfl, by decide +kernel, by decide +kernel⟩
theorem zJok_19 : zJok (yX2_hasItem, cX2_hasItem, 3, (some .boolean)) zT_19 := ⟨zmem (n := 1059) (by decide +kernel), zmem (n := 104) (by decide +kernel), by decide +kernel, by decide +kernel, rfl, by decide +kernel, by decide +kernel, rfl, by decide +kernel, by decide +kernel⟩
theorem zJok_20 : zJok (yX2_shelveBough, cX2_shelveBough, 3, none) zT_20 := ⟨zmem (n := 1082) (by decide +kernel), zmem (n := 104) (by decide +kernel), by decide +kernel, by decide +kernel, rfl, by decide +kernel, by decide +kernel, rfl, by decide +kernel, by decide +kernel⟩
theorem zJok_21 : zJok (yX2_shelveRow, cX2_shelveRow, 3, none) zT_21 := ⟨zmem (n := 1086) (by decide +kernel), zmem (n := 104) (by decide +kernel), by decide +kernel, by decide +kernel, rfl, by decide +kernel, by decide +kernel, rfl, by decide +kernel, by decide +kernel⟩
theorem zJok_22 : zJok (yX2_clear, cX2_clear, 2, none) zT_22 := ⟨zmem (n := 1090) (by decide +kernel), zmem (n := 104) (by decide +kernel), by decide +kernel, by decide +kernel, rfl, by decide +kernel, by decide +kernel, rfl, by decide +kernel, by decide +kernel⟩
theorem zJok_23 : zJok (yX2_isBough, cX2_isBough, 2, (some .boolean)) zT_23 := ⟨zmem (n := 1106) (by decide +kernel), zmem (n := 104) (by decide +kernel), by decide +kernel, by decide +kernel, rfl, by decide +kernel, by decide +kernel, rfl, by decide +kernel, by decide +kernel⟩
theorem zJok_24 : zJok (yX2_isRow, cX2_isRow, 2, (some .boolean)) zT_24 := ⟨zmem (n := 1098) (by decide +kernel), zmem (n := 104) (by decide +kernel), by decide +kernel, by decide +kernel, rfl, by decide +kernel, by decide +kernel, rfl, by decide +kernel, by decide +kernel⟩
theorem zJok_25 : zJok (yX3_copyFrom, cX3_copyFrom, 2, none) zT_25 := ⟨zmem (n := 820) (by decide +kernel), zmem (n := 95) (by decide +kernel), by decide +kernel, by decide +kernel, rfl, by decide +kernel, by decide +kernel, rfl, by decide +kernel, by decide +kernel⟩
theorem zJok_26 : zJok (yX3_bears, cX3_bears, 4, (some .int)) zT_26 := ⟨zmem (n := 538) (by decide +kernel), zmem (n := 95) (by decide +kernel), by decide +kernel, by decide +kernel, rfl, by decide +kernel, by decide +kernel, rfl, by decide +kernel, by decide +kernel⟩
theorem zJok_27 : zJok (yX3_measure, cX3_measure, 2, none) zT_27 := ⟨zmem (n := 782) (by decide +kernel), zmem (n := 95) (by decide +kernel), by decide +kernel, by decide +kernel, rfl, by decide +kernel, by decide +kernel, rfl, by decide +kernel, by decide +kernel⟩
theorem zJok_28 : zJok (yX3_load, cX3_load, 4, none) zT_28 := ⟨zmem (n := 812) (by decide +kernel), zmem (n := 95) (by decide +kernel), by decide +kernel, by decide +kernel, rfl, by decide +kernel, by decide +kernel, rfl, by decide +kernel, by decide +kernel⟩
theorem zJok_29 : zJok (yX3_cracking, cX3_cracking, 3, (some .int)) zT_29 := ⟨zmem (n := 786) (by decide +kernel), zmem (n := 95) (by decide +kernel), by decide +kernel, by decide +kernel, rfl, by decide +kernel, by decide +kernel, rfl, by decide +kernel, by decide +kernel⟩
theorem zJok_30 : zJok (yX3_stateOf, cX3_stateOf, 2, (some .int)) zT_30 := ⟨zmem (n := 546) (by decide +kernel), zmem (n := 95) (by decide +kernel), by decide +kernel, by decide +kernel, rfl, by decide +kernel, by decide +kernel, rfl, by decide +kernel, by decide +kernel⟩
theorem zJok_31 : zJok (yX3_leastSpare, cX3_leastSpare, 3, (some .int)) zT_31 := ⟨zmem (n := 794) (by decide +kernel), zmem (n := 95) (by decide +kernel), by decide +kernel, by decide +kernel, rfl, by decide +kernel, by decide +kernel, rfl, by decide +kernel, by decide +kernel⟩
theorem zJok_32 : zJok (yX3_roomOn, cX3_roomOn, 4, (some .int)) zT_32 := ⟨zmem (n := 856) (by decide +kernel), zmem (n := 95) (by decide +kernel), by decide +kernel, by decide +kernel, rfl, by decide +kernel, by decide +kernel, rfl, by decide +kernel, by decide +kernel⟩
theorem zJok_33 : zJok (yX3_breakDown, cX3_breakDown, 4, (some .int)) zT_33 := ⟨zmem (n := 802) (by decide +kernel), zmem (n := 95) (by decide +kernel), by decide +kernel, by decide +kernel, rfl, by decide +kernel, by decide +kernel, rfl, by decide +kernel, by decide +kernel⟩
theorem zJok_34 : zJok (yX3_breakOff, cX3_breakOff, 5, (some .int)) zT_34 := ⟨zmem (n := 808) (by decide +kernel), zmem (n := 95) (by decide +kernel), by decide +kernel, by decide +kernel, rfl, by decide +kernel, by decide +kernel, rfl, by decide +kernel, by decide +kernel⟩
theorem zJok_35 : zJok (yX4_copyFrom, cX4_copyFrom, 2, none) zT_35 := ⟨zmem (n := 830) (by decide +kernel), zmem (n := 98) (by decide +kernel), by decide +kernel, by decide +kernel, rfl, by decide +kernel, by decide +kernel, rfl, by decide +kernel, by decide +kernel⟩
theorem zJok_36 : zJok (yX4_join, cX4_join, 4, (some .int)) zT_36 := ⟨zmem (n := 758) (by decide +kernel), zmem (n := 98) (by decide +kernel), by decide +kernel, by decide +kernel, rfl, by decide +kernel, by decide +kernel, rfl, by decide +kernel, by decide +kernel⟩
theorem zJok_37 : zJok (yX4_isThere, cX4_isThere, 2, (some .boolean)) zT_37 := ⟨zmem (n := 766) (by decide +kernel), zmem (n := 98) (by decide +kernel), by decide +kernel, by decide +kernel, rfl, by decide +kernel, by decide +kernel, rfl, by decide +kernel, by decide +kernel⟩
theorem zJok_38 : zJok (yX4_seatedWeight, cX4_seatedWeight, 4, (some .int)) zT_38 := ⟨zmem (n := 844) (by decide +kernel), zmem (n := 98) (by decide +kernel), by decide +kernel, by decide +kernel, rfl, by decide +kernel, by decide +kernel, rfl, by decide +kernel, by decide +kernel⟩
theorem zJok_39 : zJok (yX4_firstUnseated, cX4_firstUnseated, 3, (some .int)) zT_39 := ⟨zmem (n := 940) (by decide +kernel), zmem (n := 98) (by decide +kernel), by decide +kernel, by decide +kernel, rfl, by decide +kernel, by decide +kernel, rfl, by decide +kernel, by decide +kernel⟩
theorem zJok_40 : zJok (yX5_copyFrom, cX5_copyFrom, 2, none) zT_40 := ⟨zmem (n := 835) (by decide +kernel), zmem (n := 99) (by decide +kernel), by decide +kernel, by decide +kernel, rfl, by decide +kernel, by decide +kernel, rfl, by decide +kernel, by decide +kernel⟩
theorem zJok_41 : zJok (yX5_note, cX5_note, 4, (some .int)) zT_41 := ⟨zmem (n := 961) (by decide +kernel), zmem (n := 99) (by decide +kernel), by decide +kernel, by decide +kernel, rfl, by decide +kernel, by decide +kernel, rfl, by decide +kernel, by decide +kernel⟩
theorem zJok_42 : zJok (yX5_fit, cX5_fit, 4, none) zT_42 := ⟨zmem (n := 973) (by decide +kernel), zmem (n := 99) (by decide +kernel), by decide +kernel, by decide +kernel, rfl, by decide +kernel, by decide +kernel, rfl, by decide +kernel, by decide +kernel⟩
theorem zJok_43 : zJok (yX5_narrow, cX5_narrow, 4, none) zT_43 := ⟨zmem (n := 977) (by decide +kernel), zmem (n := 99) (by decide +kernel), by decide +kernel, by decide +kernel, rfl, by decide +kernel, by decide +kernel, rfl, by decide +kernel, by decide +kernel⟩
theorem zJok_44 : zJok (yX5_fitting, cX5_fitting, 1, (some .int)) zT_44 := ⟨zmem (n := 986) (by decide +kernel), zmem (n := 99) (by decide +kernel), by decide +kernel, by decide +kernel, rfl, by decide +kernel, by decide +kernel, rfl, by decide +kernel, by decide +kernel⟩
theorem zJok_45 : zJok (yX6_has, cX6_has, 3, (some .boolean)) zT_45 := ⟨zmem (n := 1028) (by decide +kernel), zmem (n := 103) (by decide +kernel), by decide +kernel, by decide +kernel, rfl, by decide +kernel, by decide +kernel, rfl, by decide +kernel, by decide +kernel⟩
theorem zJok_46 : zJok (yX6_tell, cX6_tell, 5, none) zT_46 := ⟨zmem (n := 1017) (by decide +kernel), zmem (n := 103) (by decide +kernel), by decide +kernel, by decide +kernel, rfl, by decide +kernel, by decide +kernel, rfl, by decide +kernel, by decide +kernel⟩
theorem zJok_47 : zJok (yX6_firstWrong, cX6_firstWrong, 5, (some .int)) zT_47 := ⟨zmem (n := 1040) (by decide +kernel), zmem (n := 103) (by decide +kernel), by decide +kernel, by decide +kernel, rfl, by decide +kernel, by decide +kernel, rfl, by decide +kernel, by decide +kernel⟩
theorem zJok_48 : zJok (yX7_faultOf, cX7_faultOf, 4, (some .int)) zT_48 := ⟨zmem (n := 580) (by decide +kernel), zmem (n := 101) (by decide +kernel), by decide +kernel, by decide +kernel, rfl, by decide +kernel, by decide +kernel, rfl, by decide +kernel, by decide +kernel⟩
theorem zJok_49 : zJok (yX7_takes, cX7_takes, 2, (some .boolean)) zT_49 := ⟨zmem (n := 680) (by decide +kernel), zmem (n := 101) (by decide +kernel), by decide +kernel, by decide +kernel, rfl, by decide +kernel, by decide +kernel, rfl, by decide +kernel, by decide +kernel⟩
theorem zJok_50 : zJok (yX7_takesKind, cX7_takesKind, 2, (some .boolean)) zT_50 := ⟨zmem (n := 684) (by decide +kernel), zmem (n := 101) (by decide +kernel), by decide +kernel, by decide +kernel, rfl, by decide +kernel, by decide +kernel, rfl, by decide +kernel, by decide +kernel⟩
theorem zJok_51 : zJok (yX7_takesIf, cX7_takesIf, 2, (some .boolean)) zT_51 := ⟨zmem (n := 689) (by decide +kernel), zmem (n := 101) (by decide +kernel), by decide +kernel, by decide +kernel, rfl, by decide +kernel, by decide +kernel, rfl, by decide +kernel, by decide +kernel⟩
theorem zJok_52 : zJok (yX7_takesDeed, cX7_takesDeed, 2, (some .boolean)) zT_52 := ⟨zmem (n := 693) (by decide +kernel), zmem (n := 101) (by decide +kernel), by decide +kernel, by decide +kernel, rfl, by decide +kernel, by decide +kernel, rfl, by decide +kernel, by decide +kernel⟩
theorem zJok_53 : zJok (yX7_takesAmount, cX7_takesAmount, 2, (some .boolean)) zT_53 := ⟨zmem (n := 705) (by decide +kernel), zmem (n := 101) (by decide +kernel), by decide +kernel, by decide +kernel, rfl, by decide +kernel, by decide +kernel, rfl, by decide +kernel, by decide +kernel⟩
theorem zJok_54 : zJok (yX7_takesEnd, cX7_takesEnd, 2, (some .boolean)) zT_54 := ⟨zmem (n := 709) (by decide +kernel), zmem (n := 101) (by decide +kernel), by decide +kernel, by decide +kernel, rfl, by decide +kernel, by decide +kernel, rfl, by decide +kernel, by decide +kernel⟩
theorem zJok_55 : zJok (yX7_takesOne, cX7_takesOne, 2, (some .boolean)) zT_55 := ⟨zmem (n := 713) (by decide +kernel), zmem (n := 101) (by decide +kernel), by decide +kernel, by decide +kernel, rfl, by decide +kernel, by decide +kernel, rfl, by decide +kernel, by decide +kernel⟩
theorem zJok_56 : zJok (yX7_takesSign, cX7_takesSign, 2, (some .boolean)) zT_56 := ⟨zmem (n := 724) (by decide +kernel), zmem (n := 101) (by decide +kernel), by decide +kernel, by decide +kernel, rfl, by decide +kernel, by decide +kernel, rfl, by decide +kernel, by decide +kernel⟩
theorem zJok_57 : zJok (yX7_takesValue, cX7_takesValue, 2, (some .boolean)) zT_57 := ⟨zmem (n := 728) (by decide +kernel), zmem (n := 101) (by decide +kernel), by decide +kernel, by decide +kernel, rfl, by decide +kernel, by decide +kernel, rfl, by decide +kernel, by decide +kernel⟩
theorem zJok_58 : zJok (yX7_takesJoint, cX7_takesJoint, 2, (some .boolean)) zT_58 := ⟨zmem (n := 732) (by decide +kernel), zmem (n := 101) (by decide +kernel), by decide +kernel, by decide +kernel, rfl, by decide +kernel, by decide +kernel, rfl, by decide +kernel, by decide +kernel⟩
theorem zJok_59 : zJok (yX7_isValue, cX7_isValue, 1, (some .boolean)) zT_59 := ⟨zmem (n := 720) (by decide +kernel), zmem (n := 101) (by decide +kernel), by decide +kernel, by decide +kernel, rfl, by decide +kernel, by decide +kernel, rfl, by decide +kernel, by decide +kernel⟩
theorem zJok_60 : zJok (yX7_await, cX7_await, 2, none) zT_60 := ⟨zmem (n := 717) (by decide +kernel), zmem (n := 101) (by decide +kernel), by decide +kernel, by decide +kernel, rfl, by decide +kernel, by decide +kernel, rfl, by decide +kernel, by decide +kernel⟩
theorem zJok_61 : zJok (yX7_settle, cX7_settle, 3, none) zT_61 := ⟨zmem (n := 697) (by decide +kernel), zmem (n := 101) (by decide +kernel), by decide +kernel, by decide +kernel, rfl, by decide +kernel, by decide +kernel, rfl, by decide +kernel, by decide +kernel⟩
theorem zJok_62 : zJok (yX7_step, cX7_step, 2, none) zT_62 := ⟨zmem (n := 701) (by decide +kernel), zmem (n := 101) (by decide +kernel), by decide +kernel, by decide +kernel, rfl, by decide +kernel, by decide +kernel, rfl, by decide +kernel, by decide +kernel⟩
theorem zJok_63 : zJok (yX8_copyFrom, cX8_copyFrom, 2, none) zT_63 := ⟨zmem (n := 737) (by decide +kernel), zmem (n := 97) (by decide +kernel), by decide +kernel, by decide +kernel, rfl, by decide +kernel, by decide +kernel, rfl, by decide +kernel, by decide +kernel⟩
theorem zJok_64 : zJok (yX8_setFacts, cX8_setFacts, 6, none) zT_64 := ⟨zmem (n := 512) (by decide +kernel), zmem (n := 97) (by decide +kernel), by decide +kernel, by decide +kernel, rfl, by decide +kernel, by decide +kernel, rfl, by decide +kernel, by decide +kernel⟩
theorem zJok_65 : zJok (yX8_changed, cX8_changed, 5, (some .int)) zT_65 := ⟨zmem (n := 516) (by decide +kernel), zmem (n := 97) (by decide +kernel), by decide +kernel, by decide +kernel, rfl, by decide +kernel, by decide +kernel, rfl, by decide +kernel, by decide +kernel⟩
theorem zJok_66 : zJok (yX8_changedBy, cX8_changedBy, 3, (some .int)) zT_66 := ⟨zmem (n := 530) (by decide +kernel), zmem (n := 97) (by decide +kernel), by decide +kernel, by decide +kernel, rfl, by decide +kernel, by decide +kernel, rfl, by decide +kernel, by decide +kernel⟩
theorem zJok_67 : zJok (yX8_isSo, cX8_isSo, 6, (some .boolean)) zT_67 := ⟨zmem (n := 523) (by decide +kernel), zmem (n := 97) (by decide +kernel), by decide +kernel, by decide +kernel, rfl, by decide +kernel, by decide +kernel, rfl, by decide +kernel, by decide +kernel⟩
theorem zJok_68 : zJok (yX8_joined, cX8_joined, 3, (some .boolean)) zT_68 := ⟨zmem (n := 526) (by decide +kernel), zmem (n := 97) (by decide +kernel), by decide +kernel, by decide +kernel, rfl, by decide +kernel, by decide +kernel, rfl, by decide +kernel, by decide +kernel⟩
theorem zJok_69 : zJok (yX9_finds, cX9_finds, 4, (some .boolean)) zT_69 := ⟨zmem (n := 910) (by decide +kernel), zmem (n := 102) (by decide +kernel), by decide +kernel, by decide +kernel, rfl, by decide +kernel, by decide +kernel, rfl, by decide +kernel, by decide +kernel⟩
theorem zJok_70 : zJok (yX9_seatsFrom, cX9_seatsFrom, 4, (some .boolean)) zT_70 := ⟨zmem (n := 918) (by decide +kernel), zmem (n := 102) (by decide +kernel), by decide +kernel, by decide +kernel, rfl, by decide +kernel, by decide +kernel, rfl, by decide +kernel, by decide +kernel⟩
theorem zJok_71 : zJok (yX9_gameValue, cX9_gameValue, 4, (some .int)) zT_71 := ⟨zmem (n := 932) (by decide +kernel), zmem (n := 102) (by decide +kernel), by decide +kernel, by decide +kernel, rfl, by decide +kernel, by decide +kernel, rfl, by decide +kernel, by decide +kernel⟩
theorem zJok_72 : zJok (yX9_firstMove, cX9_firstMove, 7, (some .int)) zT_72 := ⟨zmem (n := 952) (by decide +kernel), zmem (n := 102) (by decide +kernel), by decide +kernel, by decide +kernel, rfl, by decide +kernel, by decide +kernel, rfl, by decide +kernel, by decide +kernel⟩
theorem zJok_73 : zJok (yX9_valueOf, cX9_valueOf, 8, (some .int)) zT_73 := ⟨zmem (n := 936) (by decide +kernel), zmem (n := 102) (by decide +kernel), by decide +kernel, by decide +kernel, rfl, by decide +kernel, by decide +kernel, rfl, by decide +kernel, by decide +kernel⟩
theorem zJok_74 : zJok (yX9_valueBehind, cX9_valueBehind, 7, (some .int)) zT_74 := ⟨zmem (n := 944) (by decide +kernel), zmem (n := 102) (by decide +kernel), by decide +kernel, by decide +kernel, rfl, by decide +kernel, by decide +kernel, rfl, by decide +kernel, by decide +kernel⟩
theorem zJok_75 : zJok (yX10_append, cX10_append, 5, none) zT_75 := ⟨zmem (n := 572) (by decide +kernel), zmem (n := 100) (by decide +kernel), by decide +kernel, by decide +kernel, rfl, by decide +kernel, by decide +kernel, rfl, by decide +kernel, by decide +kernel⟩
theorem zJok_76 : zJok (yX10_isBlank, cX10_isBlank, 2, (some .boolean)) zT_76 := ⟨zmem (n := 584) (by decide +kernel), zmem (n := 100) (by decide +kernel), by decide +kernel, by decide +kernel, rfl, by decide +kernel, by decide +kernel, rfl, by decide +kernel, by decide +kernel⟩
theorem zJok_77 : zJok (yX10_endOfWord, cX10_endOfWord, 4, (some .int)) zT_77 := ⟨zmem (n := 588) (by decide +kernel), zmem (n := 100) (by decide +kernel), by decide +kernel, by decide +kernel, rfl, by decide +kernel, by decide +kernel, rfl, by decide +kernel, by decide +kernel⟩
theorem zJok_78 : zJok (yX10_word, cX10_word, 3, (some .int)) zT_78 := ⟨zmem (n := 598) (by decide +kernel), zmem (n := 100) (by decide +kernel), by decide +kernel, by decide +kernel, rfl, by decide +kernel, by decide +kernel, rfl, by decide +kernel, by decide +kernel⟩
theorem zJok_79 : zJok (yX10_numberWord, cX10_numberWord, 5, (some .int)) zT_79 := ⟨zmem (n := 676) (by decide +kernel), zmem (n := 100) (by decide +kernel), by decide +kernel, by decide +kernel, rfl, by decide +kernel, by decide +kernel, rfl, by decide +kernel, by decide +kernel⟩
theorem zJok_80 : zJok (yX10_nameWord, cX10_nameWord, 3, (some .int)) zT_80 := ⟨zmem (n := 602) (by decide +kernel), zmem (n := 100) (by decide +kernel), by decide +kernel, by decide +kernel, rfl, by decide +kernel, by decide +kernel, rfl, by decide +kernel, by decide +kernel⟩
theorem zJok_81 : zJok (yX10_isName, cX10_isName, 5, (some .boolean)) zT_81 := ⟨zmem (n := 607) (by decide +kernel), zmem (n := 100) (by decide +kernel), by decide +kernel, by decide +kernel, rfl, by decide +kernel, by decide +kernel, rfl, by decide +kernel, by decide +kernel⟩
theorem zJok_82 : zJok (yX10_isLetter, cX10_isLetter, 1, (some .boolean)) zT_82 := ⟨zmem (n := 591) (by decide +kernel), zmem (n := 100) (by decide +kernel), by decide +kernel, by decide +kernel, rfl, by decide +kernel, by decide +kernel, rfl, by decide +kernel, by decide +kernel⟩
theorem zJok_83 : zJok (yX10_isDigit, cX10_isDigit, 1, (some .boolean)) zT_83 := ⟨zmem (n := 594) (by decide +kernel), zmem (n := 100) (by decide +kernel), by decide +kernel, by decide +kernel, rfl, by decide +kernel, by decide +kernel, rfl, by decide +kernel, by decide +kernel⟩
theorem zJok_84 : zJok (yX11_bough, cX11_bough, 6, (some .int)) zT_84 := ⟨zmem (n := 478) (by decide +kernel), zmem (n := 94) (by decide +kernel), by decide +kernel, by decide +kernel, rfl, by decide +kernel, by decide +kernel, rfl, by decide +kernel, by decide +kernel⟩
theorem zJok_85 : zJok (yX11_boughOf, cX11_boughOf, 3, (some .int)) zT_85 := ⟨zmem (n := 504) (by decide +kernel), zmem (n := 94) (by decide +kernel), by decide +kernel, by decide +kernel, rfl, by decide +kernel, by decide +kernel, rfl, by decide +kernel, by decide +kernel⟩
theorem zJok_86 : zJok (yX11_change, cX11_change, 4, (some .int)) zT_86 := ⟨zmem (n := 553) (by decide +kernel), zmem (n := 94) (by decide +kernel), by decide +kernel, by decide +kernel, rfl, by decide +kernel, by decide +kernel, rfl, by decide +kernel, by decide +kernel⟩
theorem zJok_87 : zJok (yX11_graft, cX11_graft, 3, (some .int)) zT_87 := ⟨zmem (n := 560) (by decide +kernel), zmem (n := 94) (by decide +kernel), by decide +kernel, by decide +kernel, rfl, by decide +kernel, by decide +kernel, rfl, by decide +kernel, by decide +kernel⟩
theorem zJok_88 : zJok (yX11_weather, cX11_weather, 4, (some .int)) zT_88 := ⟨zmem (n := 564) (by decide +kernel), zmem (n := 94) (by decide +kernel), by decide +kernel, by decide +kernel, rfl, by decide +kernel, by decide +kernel, rfl, by decide +kernel, by decide +kernel⟩
theorem zJok_89 : zJok (yX11_feed, cX11_feed, 4, (some .int)) zT_89 := ⟨zmem (n := 568) (by decide +kernel), zmem (n := 94) (by decide +kernel), by decide +kernel, by decide +kernel, rfl, by decide +kernel, by decide +kernel, rfl, by decide +kernel, by decide +kernel⟩
theorem zJok_90 : zJok (yX11_rules, cX11_rules, 2, (some .int)) zT_90 := ⟨zmem (n := 576) (by decide +kernel), zmem (n := 94) (by decide +kernel), by decide +kernel, by decide +kernel, rfl, by decide +kernel, by decide +kernel, rfl, by decide +kernel, by decide +kernel⟩
theorem zJok_91 : zJok (yX11_person, cX11_person, 3, (some .int)) zT_91 := ⟨zmem (n := 751) (by decide +kernel), zmem (n := 94) (by decide +kernel), by decide +kernel, by decide +kernel, rfl, by decide +kernel, by decide +kernel, rfl, by decide +kernel, by decide +kernel⟩
theorem zJok_92 : zJok (yX11_personOf, cX11_personOf, 3, (some .int)) zT_92 := ⟨zmem (n := 762) (by decide +kernel), zmem (n := 94) (by decide +kernel), by decide +kernel, by decide +kernel, rfl, by decide +kernel, by decide +kernel, rfl, by decide +kernel, by decide +kernel⟩
theorem zJok_93 : zJok (yX11_sit, cX11_sit, 3, (some .int)) zT_93 := ⟨zmem (n := 770) (by decide +kernel), zmem (n := 94) (by decide +kernel), by decide +kernel, by decide +kernel, rfl, by decide +kernel, by decide +kernel, rfl, by decide +kernel, by decide +kernel⟩
theorem zJok_94 : zJok (yX11_down, cX11_down, 2, (some .int)) zT_94 := ⟨zmem (n := 774) (by decide +kernel), zmem (n := 94) (by decide +kernel), by decide +kernel, by decide +kernel, rfl, by decide +kernel, by decide +kernel, rfl, by decide +kernel, by decide +kernel⟩
theorem zJok_95 : zJok (yX11_cracks, cX11_cracks, 1, (some .int)) zT_95 := ⟨zmem (n := 778) (by decide +kernel), zmem (n := 94) (by decide +kernel), by decide +kernel, by decide +kernel, rfl, by decide +kernel, by decide +kernel, rfl, by decide +kernel, by decide +kernel⟩
theorem zJok_96 : zJok (yX11_worst, cX11_worst, 2, (some .int)) zT_96 := ⟨zmem (n := 790) (by decide +kernel), zmem (n := 94) (by decide +kernel), by decide +kernel, by decide +kernel, rfl, by decide +kernel, by decide +kernel, rfl, by decide +kernel, by decide +kernel⟩
theorem zJok_97 : zJok (yX11_fall, cX11_fall, 1, (some .int)) zT_97 := ⟨zmem (n := 798) (by decide +kernel), zmem (n := 94) (by decide +kernel), by decide +kernel, by decide +kernel, rfl, by decide +kernel, by decide +kernel, rfl, by decide +kernel, by decide +kernel⟩
theorem zJok_98 : zJok (yX11_would, cX11_would, 1, (some .int)) zT_98 := ⟨zmem (n := 816) (by decide +kernel), zmem (n := 94) (by decide +kernel), by decide +kernel, by decide +kernel, rfl, by decide +kernel, by decide +kernel, rfl, by decide +kernel, by decide +kernel⟩
theorem zJok_99 : zJok (yX11_standing, cX11_standing, 2, (some .int)) zT_99 := ⟨zmem (n := 840) (by decide +kernel), zmem (n := 94) (by decide +kernel), by decide +kernel, by decide +kernel, rfl, by decide +kernel, by decide +kernel, rfl, by decide +kernel, by decide +kernel⟩
theorem zJok_100 : zJok (yX11_verdict, cX11_verdict, 2, (some .int)) zT_100 := ⟨zmem (n := 848) (by decide +kernel), zmem (n := 94) (by decide +kernel), by decide +kernel, by decide +kernel, rfl, by decide +kernel, by decide +kernel, rfl, by decide +kernel, by decide +kernel⟩
theorem zJok_101 : zJok (yX11_room, cX11_room, 2, (some .int)) zT_101 := ⟨zmem (n := 852) (by decide +kernel), zmem (n := 94) (by decide +kernel), by decide +kernel, by decide +kernel, rfl, by decide +kernel, by decide +kernel, rfl, by decide +kernel, by decide +kernel⟩
theorem zJok_102 : zJok (yX11_best, cX11_best, 5, (some .int)) zT_102 := ⟨zmem (n := 862) (by decide +kernel), zmem (n := 94) (by decide +kernel), by decide +kernel, by decide +kernel, rfl, by decide +kernel, by decide +kernel, rfl, by decide +kernel, by decide +kernel⟩
theorem zJok_103 : zJok (yX11_safe, cX11_safe, 5, (some .int)) zT_103 := ⟨zmem (n := 870) (by decide +kernel), zmem (n := 94) (by decide +kernel), by decide +kernel, by decide +kernel, rfl, by decide +kernel, by decide +kernel, rfl, by decide +kernel, by decide +kernel⟩
theorem zJok_104 : zJok (yX11_prop, cX11_prop, 5, (some .int)) zT_104 := ⟨zmem (n := 875) (by decide +kernel), zmem (n := 94) (by decide +kernel), by decide +kernel, by decide +kernel, rfl, by decide +kernel, by decide +kernel, rfl, by decide +kernel, by decide +kernel⟩
theorem zJok_105 : zJok (yX11_windFor, cX11_windFor, 3, (some .int)) zT_105 := ⟨zmem (n := 883) (by decide +kernel), zmem (n := 94) (by decide +kernel), by decide +kernel, by decide +kernel, rfl, by decide +kernel, by decide +kernel, rfl, by decide +kernel, by decide +kernel⟩
theorem zJok_106 : zJok (yX11_sapFor, cX11_sapFor, 2, (some .int)) zT_106 := ⟨zmem (n := 892) (by decide +kernel), zmem (n := 94) (by decide +kernel), by decide +kernel, by decide +kernel, rfl, by decide +kernel, by decide +kernel, rfl, by decide +kernel, by decide +kernel⟩
theorem zJok_107 : zJok (yX11_tryWithout, cX11_tryWithout, 2, none) zT_107 := ⟨zmem (n := 866) (by decide +kernel), zmem (n := 94) (by decide +kernel), by decide +kernel, by decide +kernel, rfl, by decide +kernel, by decide +kernel, rfl, by decide +kernel, by decide +kernel⟩
theorem zJok_108 : zJok (yX11_seatedIfPropped, cX11_seatedIfPropped, 2, (some .int)) zT_108 := ⟨zmem (n := 879) (by decide +kernel), zmem (n := 94) (by decide +kernel), by decide +kernel, by decide +kernel, rfl, by decide +kernel, by decide +kernel, rfl, by decide +kernel, by decide +kernel⟩
theorem zJok_109 : zJok (yX11_crackingWinds, cX11_crackingWinds, 3, (some .int)) zT_109 := ⟨zmem (n := 887) (by decide +kernel), zmem (n := 94) (by decide +kernel), by decide +kernel, by decide +kernel, rfl, by decide +kernel, by decide +kernel, rfl, by decide +kernel, by decide +kernel⟩
theorem zJok_110 : zJok (yX11_seat, cX11_seat, 3, (some .int)) zT_110 := ⟨zmem (n := 896) (by decide +kernel), zmem (n := 94) (by decide +kernel), by decide +kernel, by decide +kernel, rfl, by decide +kernel, by decide +kernel, rfl, by decide +kernel, by decide +kernel⟩
theorem zJok_111 : zJok (yX11_seatAll, cX11_seatAll, 3, (some .int)) zT_111 := ⟨zmem (n := 924) (by decide +kernel), zmem (n := 94) (by decide +kernel), by decide +kernel, by decide +kernel, rfl, by decide +kernel, by decide +kernel, rfl, by decide +kernel, by decide +kernel⟩
theorem zJok_112 : zJok (yX11_game, cX11_game, 3, (some .int)) zT_112 := ⟨zmem (n := 928) (by decide +kernel), zmem (n := 94) (by decide +kernel), by decide +kernel, by decide +kernel, rfl, by decide +kernel, by decide +kernel, rfl, by decide +kernel, by decide +kernel⟩
theorem zJok_113 : zJok (yX11_move, cX11_move, 3, (some .int)) zT_113 := ⟨zmem (n := 948) (by decide +kernel), zmem (n := 94) (by decide +kernel), by decide +kernel, by decide +kernel, rfl, by decide +kernel, by decide +kernel, rfl, by decide +kernel, by decide +kernel⟩
theorem zJok_114 : zJok (yX11_isSeatable, cX11_isSeatable, 2, (some .boolean)) zT_114 := ⟨zmem (n := 900) (by decide +kernel), zmem (n := 94) (by decide +kernel), by decide +kernel, by decide +kernel, rfl, by decide +kernel, by decide +kernel, rfl, by decide +kernel, by decide +kernel⟩
theorem zJok_115 : zJok (yX11_report, cX11_report, 3, (some .int)) zT_115 := ⟨zmem (n := 957) (by decide +kernel), zmem (n := 94) (by decide +kernel), by decide +kernel, by decide +kernel, rfl, by decide +kernel, by decide +kernel, rfl, by decide +kernel, by decide +kernel⟩
theorem zJok_116 : zJok (yX11_forget, cX11_forget, 2, (some .int)) zT_116 := ⟨zmem (n := 965) (by decide +kernel), zmem (n := 94) (by decide +kernel), by decide +kernel, by decide +kernel, rfl, by decide +kernel, by decide +kernel, rfl, by decide +kernel, by decide +kernel⟩
theorem zJok_117 : zJok (yX11_span, cX11_span, 2, (some .int)) zT_117 := ⟨zmem (n := 969) (by decide +kernel), zmem (n := 94) (by decide +kernel), by decide +kernel, by decide +kernel, rfl, by decide +kernel, by decide +kernel, rfl, by decide +kernel, by decide +kernel⟩
theorem zJok_118 : zJok (yX11_liar, cX11_liar, 2, (some .int)) zT_118 := ⟨zmem (n := 990) (by decide +kernel), zmem (n := 94) (by decide +kernel), by decide +kernel, by decide +kernel, rfl, by decide +kernel, by decide +kernel, rfl, by decide +kernel, by decide +kernel⟩
theorem zJok_119 : zJok (yX11_seed, cX11_seed, 3, (some .int)) zT_119 := ⟨zmem (n := 994) (by decide +kernel), zmem (n := 94) (by decide +kernel), by decide +kernel, by decide +kernel, rfl, by decide +kernel, by decide +kernel, rfl, by decide +kernel, by decide +kernel⟩
theorem zJok_120 : zJok (yX11_draw, cX11_draw, 1, (some .int)) zT_120 := ⟨zmem (n := 998) (by decide +kernel), zmem (n := 94) (by decide +kernel), by decide +kernel, by decide +kernel, rfl, by decide +kernel, by decide +kernel, rfl, by decide +kernel, by decide +kernel⟩
theorem zJok_121 : zJok (yX11_often, cX11_often, 6, (some .int)) zT_121 := ⟨zmem (n := 1009) (by decide +kernel), zmem (n := 94) (by decide +kernel), by decide +kernel, by decide +kernel, rfl, by decide +kernel, by decide +kernel, rfl, by decide +kernel, by decide +kernel⟩
theorem zJok_122 : zJok (yX11_drawnFrom, cX11_drawnFrom, 1, (some .int)) zT_122 := ⟨zmem (n := 1001) (by decide +kernel), zmem (n := 94) (by decide +kernel), by decide +kernel, by decide +kernel, rfl, by decide +kernel, by decide +kernel, rfl, by decide +kernel, by decide +kernel⟩
theorem zJok_123 : zJok (yX11_windOf, cX11_windOf, 1, (some .int)) zT_123 := ⟨zmem (n := 1005) (by decide +kernel), zmem (n := 94) (by decide +kernel), by decide +kernel, by decide +kernel, rfl, by decide +kernel, by decide +kernel, rfl, by decide +kernel, by decide +kernel⟩
theorem zJok_124 : zJok (yX11_prove, cX11_prove, 2, (some .int)) zT_124 := ⟨zmem (n := 1013) (by decide +kernel), zmem (n := 94) (by decide +kernel), by decide +kernel, by decide +kernel, rfl, by decide +kernel, by decide +kernel, rfl, by decide +kernel, by decide +kernel⟩
theorem zJok_125 : zJok (yX11_row, cX11_row, 3, (some .int)) zT_125 := ⟨zmem (n := 1024) (by decide +kernel), zmem (n := 94) (by decide +kernel), by decide +kernel, by decide +kernel, rfl, by decide +kernel, by decide +kernel, rfl, by decide +kernel, by decide +kernel⟩
theorem zJok_126 : zJok (yX11_alterRow, cX11_alterRow, 4, (some .int)) zT_126 := ⟨zmem (n := 1032) (by decide +kernel), zmem (n := 94) (by decide +kernel), by decide +kernel, by decide +kernel, rfl, by decide +kernel, by decide +kernel, rfl, by decide +kernel, by decide +kernel⟩
theorem zJok_127 : zJok (yX11_judge, cX11_judge, 1, (some .int)) zT_127 := ⟨zmem (n := 1036) (by decide +kernel), zmem (n := 94) (by decide +kernel), by decide +kernel, by decide +kernel, rfl, by decide +kernel, by decide +kernel, rfl, by decide +kernel, by decide +kernel⟩
theorem zJok_128 : zJok (yX11_sheet, cX11_sheet, 4, (some .int)) zT_128 := ⟨zmem (n := 1044) (by decide +kernel), zmem (n := 94) (by decide +kernel), by decide +kernel, by decide +kernel, rfl, by decide +kernel, by decide +kernel, rfl, by decide +kernel, by decide +kernel⟩
theorem zJok_129 : zJok (yX11_write, cX11_write, 4, (some .int)) zT_129 := ⟨zmem (n := 1055) (by decide +kernel), zmem (n := 94) (by decide +kernel), by decide +kernel, by decide +kernel, rfl, by decide +kernel, by decide +kernel, rfl, by decide +kernel, by decide +kernel⟩
theorem zJok_130 : zJok (yX11_item, cX11_item, 5, (some .int)) zT_130 := ⟨zmem (n := 1066) (by decide +kernel), zmem (n := 94) (by decide +kernel), by decide +kernel, by decide +kernel, rfl, by decide +kernel, by decide +kernel, rfl, by decide +kernel, by decide +kernel⟩
theorem zJok_131 : zJok (yX11_climbs, cX11_climbs, 9, (some .int)) zT_131 := ⟨zmem (n := 1074) (by decide +kernel), zmem (n := 94) (by decide +kernel), by decide +kernel, by decide +kernel, rfl, by decide +kernel, by decide +kernel, rfl, by decide +kernel, by decide +kernel⟩
theorem zJok_132 : zJok (yX11_shelf, cX11_shelf, 4, (some .int)) zT_132 := ⟨zmem (n := 1078) (by decide +kernel), zmem (n := 94) (by decide +kernel), by decide +kernel, by decide +kernel, rfl, by decide +kernel, by decide +kernel, rfl, by decide +kernel, by decide +kernel⟩
theorem zJok_133 : zJok (yX11_taken, cX11_taken, 5, (some .int)) zT_133 := ⟨zmem (n := 1094) (by decide +kernel), zmem (n := 94) (by decide +kernel), by decide +kernel, by decide +kernel, rfl, by decide +kernel, by decide +kernel, rfl, by decide +kernel, by decide +kernel⟩
theorem zJok_134 : zJok (yX11_act, cX11_act, 6, (some .int)) zT_134 := ⟨zmem (n := 1111) (by decide +kernel), zmem (n := 94) (by decide +kernel), by decide +kernel, by decide +kernel, rfl, by decide +kernel, by decide +kernel, rfl, by decide +kernel, by decide +kernel⟩
theorem zJok_135 : zJok (yX11_trace, cX11_trace, 2, (some .int)) zT_135 := ⟨zmem (n := 1162) (by decide +kernel), zmem (n := 94) (by decide +kernel), by decide +kernel, by decide +kernel, rfl, by decide +kernel, by decide +kernel, rfl, by decide +kernel, by decide +kernel⟩
theorem zJok_136 : zJok (yX11_many, cX11_many, 2, (some .int)) zT_136 := ⟨zmem (n := 1166) (by decide +kernel), zmem (n := 94) (by decide +kernel), by decide +kernel, by decide +kernel, rfl, by decide +kernel, by decide +kernel, rfl, by decide +kernel, by decide +kernel⟩
theorem zJok_137 : zJok (yX11_boughOn, cX11_boughOn, 3, (some .int)) zT_137 := ⟨zmem (n := 1102) (by decide +kernel), zmem (n := 94) (by decide +kernel), by decide +kernel, by decide +kernel, rfl, by decide +kernel, by decide +kernel, rfl, by decide +kernel, by decide +kernel⟩
theorem zJok_138 : zJok (yX11_narrowed, cX11_narrowed, 2, (some .long)) zT_138 := ⟨zmem (n := 1062) (by decide +kernel), zmem (n := 94) (by decide +kernel), by decide +kernel, by decide +kernel, rfl, by decide +kernel, by decide +kernel, rfl, by decide +kernel, by decide +kernel⟩
theorem zJok_139 : zJok (yX11_keep, cX11_keep, 1, (some .int)) zT_139 := ⟨zmem (n := 1170) (by decide +kernel), zmem (n := 94) (by decide +kernel), by decide +kernel, by decide +kernel, rfl, by decide +kernel, by decide +kernel, rfl, by decide +kernel, by decide +kernel⟩
theorem zJok_140 : zJok (yX11_again, cX11_again, 1, (some .int)) zT_140 := ⟨zmem (n := 1174) (by decide +kernel), zmem (n := 94) (by decide +kernel), by decide +kernel, by decide +kernel, rfl, by decide +kernel, by decide +kernel, rfl, by decide +kernel, by decide +kernel⟩
theorem zJok_141 : zJok (yX11_isWithin, cX11_isWithin, 3, (some .boolean)) zT_141 := ⟨zmem (n := 484) (by decide +kernel), zmem (n := 94) (by decide +kernel), by decide +kernel, by decide +kernel, rfl, by decide +kernel, by decide +kernel, rfl, by decide +kernel, by decide +kernel⟩
theorem zJok_142 : zJok (yX11_isBoughKind, cX11_isBoughKind, 1, (some .boolean)) zT_142 := ⟨zmem (n := 481) (by decide +kernel), zmem (n := 94) (by decide +kernel), by decide +kernel, by decide +kernel, rfl, by decide +kernel, by decide +kernel, rfl, by decide +kernel, by decide +kernel⟩
theorem zJok_143 : zJok (yX11_isSide, cX11_isSide, 1, (some .boolean)) zT_143 := ⟨zmem (n := 754) (by decide +kernel), zmem (n := 94) (by decide +kernel), by decide +kernel, by decide +kernel, rfl, by decide +kernel, by decide +kernel, rfl, by decide +kernel, by decide +kernel⟩
theorem zJok_144 : zJok (yX11_isPlace, cX11_isPlace, 1, (some .boolean)) zT_144 := ⟨zmem (n := 1047) (by decide +kernel), zmem (n := 94) (by decide +kernel), by decide +kernel, by decide +kernel, rfl, by decide +kernel, by decide +kernel, rfl, by decide +kernel, by decide +kernel⟩
theorem zJok_145 : zJok (yX11_isIn, cX11_isIn, 2, (some .boolean)) zT_145 := ⟨zmem (n := 496) (by decide +kernel), zmem (n := 94) (by decide +kernel), by decide +kernel, by decide +kernel, rfl, by decide +kernel, by decide +kernel, rfl, by decide +kernel, by decide +kernel⟩
theorem zJok_146 : zJok (yX11_isKindOf, cX11_isKindOf, 2, (some .boolean)) zT_146 := ⟨zmem (n := 519) (by decide +kernel), zmem (n := 94) (by decide +kernel), by decide +kernel, by decide +kernel, rfl, by decide +kernel, by decide +kernel, rfl, by decide +kernel, by decide +kernel⟩
theorem zJok_147 : zJok (yX11_replaced, cX11_replaced, 4, (some .int)) zT_147 := ⟨zmem (n := 556) (by decide +kernel), zmem (n := 94) (by decide +kernel), by decide +kernel, by decide +kernel, rfl, by decide +kernel, by decide +kernel, rfl, by decide +kernel, by decide +kernel⟩
theorem zJok_148 : zJok (yX11_copyRow, cX11_copyRow, 2, none) zT_148 := ⟨zmem (n := 740) (by decide +kernel), zmem (n := 94) (by decide +kernel), by decide +kernel, by decide +kernel, rfl, by decide +kernel, by decide +kernel, rfl, by decide +kernel, by decide +kernel⟩
theorem zJok_149 : zJok (yX12_in, cX12_in, 6, (some .boolean)) zT_149 := ⟨zmem (n := 1300) (by decide +kernel), zmem (n := 106) (by decide +kernel), by decide +kernel, by decide +kernel, rfl, by decide +kernel, by decide +kernel, rfl, by decide +kernel, by decide +kernel⟩
theorem zJok_150 : zJok (yX12_isBough, cX12_isBough, 2, (some .boolean)) zT_150 := ⟨zmem (n := 1304) (by decide +kernel), zmem (n := 106) (by decide +kernel), by decide +kernel, by decide +kernel, rfl, by decide +kernel, by decide +kernel, rfl, by decide +kernel, by decide +kernel⟩
theorem zJok_151 : zJok (yX12_isPerson, cX12_isPerson, 2, (some .boolean)) zT_151 := ⟨zmem (n := 1403) (by decide +kernel), zmem (n := 106) (by decide +kernel), by decide +kernel, by decide +kernel, rfl, by decide +kernel, by decide +kernel, rfl, by decide +kernel, by decide +kernel⟩
theorem zJok_152 : zJok (yX12_has, cX12_has, 2, (some .boolean)) zT_152 := ⟨zmem (n := 1527) (by decide +kernel), zmem (n := 106) (by decide +kernel), by decide +kernel, by decide +kernel, rfl, by decide +kernel, by decide +kernel, rfl, by decide +kernel, by decide +kernel⟩
theorem zJok_153 : zJok (yX12_puts, cX12_puts, 2, none) zT_153 := ⟨zmem (n := 1456) (by decide +kernel), zmem (n := 106) (by decide +kernel), by decide +kernel, by decide +kernel, rfl, by decide +kernel, by decide +kernel, rfl, by decide +kernel, by decide +kernel⟩
theorem zJok_154 : zJok (yX12_putsBack, cX12_putsBack, 2, none) zT_154 := ⟨zmem (n := 1460) (by decide +kernel), zmem (n := 106) (by decide +kernel), by decide +kernel, by decide +kernel, rfl, by decide +kernel, by decide +kernel, rfl, by decide +kernel, by decide +kernel⟩
theorem zJok_155 : zJok (yX12_at, cX12_at, 2, (some .int)) zT_155 := ⟨zmem (n := 1320) (by decide +kernel), zmem (n := 106) (by decide +kernel), by decide +kernel, by decide +kernel, rfl, by decide +kernel, by decide +kernel, rfl, by decide +kernel, by decide +kernel⟩
theorem zJok_156 : zJok (yX12_its, cX12_its, 3, (some .int)) zT_156 := ⟨zmem (n := 1317) (by decide +kernel), zmem (n := 106) (by decide +kernel), by decide +kernel, by decide +kernel, rfl, by decide +kernel, by decide +kernel, rfl, by decide +kernel, by decide +kernel⟩
theorem zJok_157 : zJok (yX12_isBroken, cX12_isBroken, 2, (some .boolean)) zT_157 := ⟨zmem (n := 1313) (by decide +kernel), zmem (n := 106) (by decide +kernel), by decide +kernel, by decide +kernel, rfl, by decide +kernel, by decide +kernel, rfl, by decide +kernel, by decide +kernel⟩
theorem zJok_158 : zJok (yX12_below, cX12_below, 2, (some .int)) zT_158 := ⟨zmem (n := 1374) (by decide +kernel), zmem (n := 106) (by decide +kernel), by decide +kernel, by decide +kernel, rfl, by decide +kernel, by decide +kernel, rfl, by decide +kernel, by decide +kernel⟩
theorem zJok_159 : zJok (yX12_isPart, cX12_isPart, 2, (some .boolean)) zT_159 := ⟨zmem (n := 1307) (by decide +kernel), zmem (n := 106) (by decide +kernel), by decide +kernel, by decide +kernel, rfl, by decide +kernel, by decide +kernel, rfl, by decide +kernel, by decide +kernel⟩
theorem zJok_160 : zJok (yX12_bough, cX12_bough, 6, (some .int)) zT_160 := ⟨zmem (n := 1296) (by decide +kernel), zmem (n := 106) (by decide +kernel), by decide +kernel, by decide +kernel, rfl, by decide +kernel, by decide +kernel, rfl, by decide +kernel, by decide +kernel⟩
theorem zJok_161 : zJok (yX12_isUnder, cX12_isUnder, 2, (some .boolean)) zT_161 := ⟨zmem (n := 1340) (by decide +kernel), zmem (n := 106) (by decide +kernel), by decide +kernel, by decide +kernel, rfl, by decide +kernel, by decide +kernel, rfl, by decide +kernel, by decide +kernel⟩
theorem zJok_162 : zJok (yX12_fact, cX12_fact, 3, (some .int)) zT_162 := ⟨zmem (n := 1348) (by decide +kernel), zmem (n := 106) (by decide +kernel), by decide +kernel, by decide +kernel, rfl, by decide +kernel, by decide +kernel, rfl, by decide +kernel, by decide +kernel⟩
theorem zJok_163 : zJok (yX12_isHolding, cX12_isHolding, 3, (some .boolean)) zT_163 := ⟨zmem (n := 1351) (by decide +kernel), zmem (n := 106) (by decide +kernel), by decide +kernel, by decide +kernel, rfl, by decide +kernel, by decide +kernel, rfl, by decide +kernel, by decide +kernel⟩
theorem zJok_164 : zJok (yX12_isSo, cX12_isSo, 7, (some .boolean)) zT_164 := ⟨zmem (n := 1344) (by decide +kernel), zmem (n := 106) (by decide +kernel), by decide +kernel, by decide +kernel, rfl, by decide +kernel, by decide +kernel, rfl, by decide +kernel, by decide +kernel⟩
theorem zJok_165 : zJok (yX12_holdsNow, cX12_holdsNow, 9, (some .int)) zT_165 := ⟨zmem (n := 1337) (by decide +kernel), zmem (n := 106) (by decide +kernel), by decide +kernel, by decide +kernel, rfl, by decide +kernel, by decide +kernel, rfl, by decide +kernel, by decide +kernel⟩
theorem zJok_166 : zJok (yX12_findHolds, cX12_findHolds, 2, none) zT_166 := ⟨zmem (n := 1333) (by decide +kernel), zmem (n := 106) (by decide +kernel), by decide +kernel, by decide +kernel, rfl, by decide +kernel, by decide +kernel, rfl, by decide +kernel, by decide +kernel⟩
theorem zJok_167 : zJok (yX12_loads, cX12_loads, 4, none) zT_167 := ⟨zmem (n := 1370) (by decide +kernel), zmem (n := 106) (by decide +kernel), by decide +kernel, by decide +kernel, rfl, by decide +kernel, by decide +kernel, rfl, by decide +kernel, by decide +kernel⟩
theorem zJok_168 : zJok (yX12_findBears, cX12_findBears, 2, none) zT_168 := ⟨zmem (n := 1355) (by decide +kernel), zmem (n := 106) (by decide +kernel), by decide +kernel, by decide +kernel, rfl, by decide +kernel, by decide +kernel, rfl, by decide +kernel, by decide +kernel⟩
theorem zJok_169 : zJok (yX12_isCracking, cX12_isCracking, 2, (some .boolean)) zT_169 := ⟨zmem (n := 1378) (by decide +kernel), zmem (n := 106) (by decide +kernel), by decide +kernel, by decide +kernel, rfl, by decide +kernel, by decide +kernel, rfl, by decide +kernel, by decide +kernel⟩
theorem zJok_170 : zJok (yX12_crackSet, cX12_crackSet, 3, (some .int)) zT_170 := ⟨zmem (n := 1428) (by decide +kernel), zmem (n := 106) (by decide +kernel), by decide +kernel, by decide +kernel, rfl, by decide +kernel, by decide +kernel, rfl, by decide +kernel, by decide +kernel⟩
theorem zJok_171 : zJok (yX12_isSafe, cX12_isSafe, 1, (some .boolean)) zT_171 := ⟨zmem (n := 1492) (by decide +kernel), zmem (n := 106) (by decide +kernel), by decide +kernel, by decide +kernel, rfl, by decide +kernel, by decide +kernel, rfl, by decide +kernel, by decide +kernel⟩
theorem zJok_172 : zJok (yX12_findAll, cX12_findAll, 1, none) zT_172 := ⟨zmem (n := 1329) (by decide +kernel), zmem (n := 106) (by decide +kernel), by decide +kernel, by decide +kernel, rfl, by decide +kernel, by decide +kernel, rfl, by decide +kernel, by decide +kernel⟩
theorem zJok_173 : zJok (yX12_boughOf, cX12_boughOf, 3, (some .int)) zT_173 := ⟨zmem (n := 1324) (by decide +kernel), zmem (n := 106) (by decide +kernel), by decide +kernel, by decide +kernel, rfl, by decide +kernel, by decide +kernel, rfl, by decide +kernel, by decide +kernel⟩
theorem zJok_174 : zJok (yX12_change, cX12_change, 5, (some .int)) zT_174 := ⟨zmem (n := 1382) (by decide +kernel), zmem (n := 106) (by decide +kernel), by decide +kernel, by decide +kernel, rfl, by decide +kernel, by decide +kernel, rfl, by decide +kernel, by decide +kernel⟩
theorem zJok_175 : zJok (yX12_graft, cX12_graft, 4, (some .int)) zT_175 := ⟨zmem (n := 1386) (by decide +kernel), zmem (n := 106) (by decide +kernel), by decide +kernel, by decide +kernel, rfl, by decide +kernel, by decide +kernel, rfl, by decide +kernel, by decide +kernel⟩
theorem zJok_176 : zJok (yX12_weather, cX12_weather, 4, (some .int)) zT_176 := ⟨zmem (n := 1390) (by decide +kernel), zmem (n := 106) (by decide +kernel), by decide +kernel, by decide +kernel, rfl, by decide +kernel, by decide +kernel, rfl, by decide +kernel, by decide +kernel⟩
theorem zJok_177 : zJok (yX12_where, cX12_where, 2, (some .int)) zT_177 := ⟨zmem (n := 1366) (by decide +kernel), zmem (n := 106) (by decide +kernel), by decide +kernel, by decide +kernel, rfl, by decide +kernel, by decide +kernel, rfl, by decide +kernel, by decide +kernel⟩
theorem zJok_178 : zJok (yX12_whose, cX12_whose, 3, (some .int)) zT_178 := ⟨zmem (n := 1363) (by decide +kernel), zmem (n := 106) (by decide +kernel), by decide +kernel, by decide +kernel, rfl, by decide +kernel, by decide +kernel, rfl, by decide +kernel, by decide +kernel⟩
theorem zJok_179 : zJok (yX12_seatOf, cX12_seatOf, 2, (some .int)) zT_179 := ⟨zmem (n := 1359) (by decide +kernel), zmem (n := 106) (by decide +kernel), by decide +kernel, by decide +kernel, rfl, by decide +kernel, by decide +kernel, rfl, by decide +kernel, by decide +kernel⟩
theorem zJok_180 : zJok (yX12_seats, cX12_seats, 3, none) zT_180 := ⟨zmem (n := 1416) (by decide +kernel), zmem (n := 106) (by decide +kernel), by decide +kernel, by decide +kernel, rfl, by decide +kernel, by decide +kernel, rfl, by decide +kernel, by decide +kernel⟩
theorem zJok_181 : zJok (yX12_person, cX12_person, 4, (some .int)) zT_181 := ⟨zmem (n := 1394) (by decide +kernel), zmem (n := 106) (by decide +kernel), by decide +kernel, by decide +kernel, rfl, by decide +kernel, by decide +kernel, rfl, by decide +kernel, by decide +kernel⟩
theorem zJok_182 : zJok (yX12_toldSeat, cX12_toldSeat, 2, (some .int)) zT_182 := ⟨zmem (n := 1408) (by decide +kernel), zmem (n := 106) (by decide +kernel), by decide +kernel, by decide +kernel, rfl, by decide +kernel, by decide +kernel, rfl, by decide +kernel, by decide +kernel⟩
theorem zJok_183 : zJok (yX12_personOf, cX12_personOf, 3, (some .int)) zT_183 := ⟨zmem (n := 1399) (by decide +kernel), zmem (n := 106) (by decide +kernel), by decide +kernel, by decide +kernel, rfl, by decide +kernel, by decide +kernel, rfl, by decide +kernel, by decide +kernel⟩
theorem zJok_184 : zJok (yX12_sit, cX12_sit, 4, (some .int)) zT_184 := ⟨zmem (n := 1412) (by decide +kernel), zmem (n := 106) (by decide +kernel), by decide +kernel, by decide +kernel, rfl, by decide +kernel, by decide +kernel, rfl, by decide +kernel, by decide +kernel⟩
theorem zJok_185 : zJok (yX12_down, cX12_down, 3, (some .int)) zT_185 := ⟨zmem (n := 1420) (by decide +kernel), zmem (n := 106) (by decide +kernel), by decide +kernel, by decide +kernel, rfl, by decide +kernel, by decide +kernel, rfl, by decide +kernel, by decide +kernel⟩
theorem zJok_186 : zJok (yX12_cracks, cX12_cracks, 1, (some .int)) zT_186 := ⟨zmem (n := 1424) (by decide +kernel), zmem (n := 106) (by decide +kernel), by decide +kernel, by decide +kernel, rfl, by decide +kernel, by decide +kernel, rfl, by decide +kernel, by decide +kernel⟩
theorem zJok_187 : zJok (yX12_worstOf, cX12_worstOf, 3, (some .int)) zT_187 := ⟨zmem (n := 1436) (by decide +kernel), zmem (n := 106) (by decide +kernel), by decide +kernel, by decide +kernel, rfl, by decide +kernel, by decide +kernel, rfl, by decide +kernel, by decide +kernel⟩
theorem zJok_188 : zJok (yX12_worst, cX12_worst, 2, (some .int)) zT_188 := ⟨zmem (n := 1432) (by decide +kernel), zmem (n := 106) (by decide +kernel), by decide +kernel, by decide +kernel, rfl, by decide +kernel, by decide +kernel, rfl, by decide +kernel, by decide +kernel⟩
theorem zJok_189 : zJok (yX12_isAbove, cX12_isAbove, 4, (some .boolean)) zT_189 := ⟨zmem (n := 1448) (by decide +kernel), zmem (n := 106) (by decide +kernel), by decide +kernel, by decide +kernel, rfl, by decide +kernel, by decide +kernel, rfl, by decide +kernel, by decide +kernel⟩
theorem zJok_190 : zJok (yX12_falls, cX12_falls, 4, (some .int)) zT_190 := ⟨zmem (n := 1444) (by decide +kernel), zmem (n := 106) (by decide +kernel), by decide +kernel, by decide +kernel, rfl, by decide +kernel, by decide +kernel, rfl, by decide +kernel, by decide +kernel⟩
theorem zJok_191 : zJok (yX12_fall, cX12_fall, 1, (some .int)) zT_191 := ⟨zmem (n := 1440) (by decide +kernel), zmem (n := 106) (by decide +kernel), by decide +kernel, by decide +kernel, rfl, by decide +kernel, by decide +kernel, rfl, by decide +kernel, by decide +kernel⟩
theorem zJok_192 : zJok (yX12_would, cX12_would, 2, (some .int)) zT_192 := ⟨zmem (n := 1452) (by decide +kernel), zmem (n := 106) (by decide +kernel), by decide +kernel, by decide +kernel, rfl, by decide +kernel, by decide +kernel, rfl, by decide +kernel, by decide +kernel⟩
theorem zJok_193 : zJok (yX12_findStanding, cX12_findStanding, 3, none) zT_193 := ⟨zmem (n := 1468) (by decide +kernel), zmem (n := 106) (by decide +kernel), by decide +kernel, by decide +kernel, rfl, by decide +kernel, by decide +kernel, rfl, by decide +kernel, by decide +kernel⟩
theorem zJok_194 : zJok (yX12_standing, cX12_standing, 2, (some .int)) zT_194 := ⟨zmem (n := 1464) (by decide +kernel), zmem (n := 106) (by decide +kernel), by decide +kernel, by decide +kernel, rfl, by decide +kernel, by decide +kernel, rfl, by decide +kernel, by decide +kernel⟩
theorem zJok_195 : zJok (yX12_verdict, cX12_verdict, 1, (some .int)) zT_195 := ⟨zmem (n := 1472) (by decide +kernel), zmem (n := 106) (by decide +kernel), by decide +kernel, by decide +kernel, rfl, by decide +kernel, by decide +kernel, rfl, by decide +kernel, by decide +kernel⟩
theorem zJok_196 : zJok (yX12_roomOf, cX12_roomOf, 4, (some .int)) zT_196 := ⟨zmem (n := 1480) (by decide +kernel), zmem (n := 106) (by decide +kernel), by decide +kernel, by decide +kernel, rfl, by decide +kernel, by decide +kernel, rfl, by decide +kernel, by decide +kernel⟩
theorem zJok_197 : zJok (yX12_room, cX12_room, 2, (some .int)) zT_197 := ⟨zmem (n := 1476) (by decide +kernel), zmem (n := 106) (by decide +kernel), by decide +kernel, by decide +kernel, rfl, by decide +kernel, by decide +kernel, rfl, by decide +kernel, by decide +kernel⟩
theorem zJok_198 : zJok (yX12_best, cX12_best, 5, (some .int)) zT_198 := ⟨zmem (n := 1484) (by decide +kernel), zmem (n := 106) (by decide +kernel), by decide +kernel, by decide +kernel, rfl, by decide +kernel, by decide +kernel, rfl, by decide +kernel, by decide +kernel⟩
theorem zJok_199 : zJok (yX12_safe, cX12_safe, 5, (some .int)) zT_199 := ⟨zmem (n := 1488) (by decide +kernel), zmem (n := 106) (by decide +kernel), by decide +kernel, by decide +kernel, rfl, by decide +kernel, by decide +kernel, rfl, by decide +kernel, by decide +kernel⟩
theorem zJok_200 : zJok (yX12_prop, cX12_prop, 5, (some .int)) zT_200 := ⟨zmem (n := 1496) (by decide +kernel), zmem (n := 106) (by decide +kernel), by decide +kernel, by decide +kernel, rfl, by decide +kernel, by decide +kernel, rfl, by decide +kernel, by decide +kernel⟩
theorem zJok_201 : zJok (yX12_leastOf, cX12_leastOf, 6, (some .int)) zT_201 := ⟨zmem (n := 1504) (by decide +kernel), zmem (n := 106) (by decide +kernel), by decide +kernel, by decide +kernel, rfl, by decide +kernel, by decide +kernel, rfl, by decide +kernel, by decide +kernel⟩
theorem zJok_202 : zJok (yX12_windFor, cX12_windFor, 1, (some .int)) zT_202 := ⟨zmem (n := 1500) (by decide +kernel), zmem (n := 106) (by decide +kernel), by decide +kernel, by decide +kernel, rfl, by decide +kernel, by decide +kernel, rfl, by decide +kernel, by decide +kernel⟩
theorem zJok_203 : zJok (yX12_sapFor, cX12_sapFor, 1, (some .int)) zT_203 := ⟨zmem (n := 1508) (by decide +kernel), zmem (n := 106) (by decide +kernel), by decide +kernel, by decide +kernel, rfl, by decide +kernel, by decide +kernel, rfl, by decide +kernel, by decide +kernel⟩
theorem zJok_204 : zJok (yX12_ones, cX12_ones, 3, (some .int)) zT_204 := ⟨zmem (n := 1519) (by decide +kernel), zmem (n := 106) (by decide +kernel), by decide +kernel, by decide +kernel, rfl, by decide +kernel, by decide +kernel, rfl, by decide +kernel, by decide +kernel⟩
theorem zJok_205 : zJok (yX12_isParty, cX12_isParty, 2, (some .boolean)) zT_205 := ⟨zmem (n := 1516) (by decide +kernel), zmem (n := 106) (by decide +kernel), by decide +kernel, by decide +kernel, rfl, by decide +kernel, by decide +kernel, rfl, by decide +kernel, by decide +kernel⟩
theorem zJok_206 : zJok (yX12_canSeat, cX12_canSeat, 3, (some .boolean)) zT_206 := ⟨zmem (n := 1531) (by decide +kernel), zmem (n := 106) (by decide +kernel), by decide +kernel, by decide +kernel, rfl, by decide +kernel, by decide +kernel, rfl, by decide +kernel, by decide +kernel⟩
theorem zJok_207 : zJok (yX12_findSeating, cX12_findSeating, 4, (some .boolean)) zT_207 := ⟨zmem (n := 1524) (by decide +kernel), zmem (n := 106) (by decide +kernel), by decide +kernel, by decide +kernel, rfl, by decide +kernel, by decide +kernel, rfl, by decide +kernel, by decide +kernel⟩
theorem zJok_208 : zJok (yX12_seat, cX12_seat, 3, (some .int)) zT_208 := ⟨zmem (n := 1512) (by decide +kernel), zmem (n := 106) (by decide +kernel), by decide +kernel, by decide +kernel, rfl, by decide +kernel, by decide +kernel, rfl, by decide +kernel, by decide +kernel⟩
theorem zJok_209 : zJok (yX12_seatAll, cX12_seatAll, 3, (some .int)) zT_209 := ⟨zmem (n := 1535) (by decide +kernel), zmem (n := 106) (by decide +kernel), by decide +kernel, by decide +kernel, rfl, by decide +kernel, by decide +kernel, rfl, by decide +kernel, by decide +kernel⟩
theorem zJok_210 : zJok (yX12_idler, cX12_idler, 3, (some .int)) zT_210 := ⟨zmem (n := 1551) (by decide +kernel), zmem (n := 106) (by decide +kernel), by decide +kernel, by decide +kernel, rfl, by decide +kernel, by decide +kernel, rfl, by decide +kernel, by decide +kernel⟩
theorem zJok_211 : zJok (yX12_worthOf, cX12_worthOf, 2, (some .int)) zT_211 := ⟨zmem (n := 1558) (by decide +kernel), zmem (n := 106) (by decide +kernel), by decide +kernel, by decide +kernel, rfl, by decide +kernel, by decide +kernel, rfl, by decide +kernel, by decide +kernel⟩
theorem zJok_212 : zJok (yX12_leadsTo, cX12_leadsTo, 6, (some .int)) zT_212 := ⟨zmem (n := 1555) (by decide +kernel), zmem (n := 106) (by decide +kernel), by decide +kernel, by decide +kernel, rfl, by decide +kernel, by decide +kernel, rfl, by decide +kernel, by decide +kernel⟩
theorem zJok_213 : zJok (yX12_valueOf, cX12_valueOf, 7, (some .int)) zT_213 := ⟨zmem (n := 1547) (by decide +kernel), zmem (n := 106) (by decide +kernel), by decide +kernel, by decide +kernel, rfl, by decide +kernel, by decide +kernel, rfl, by decide +kernel, by decide +kernel⟩
theorem zJok_214 : zJok (yX12_isGame, cX12_isGame, 2, (some .boolean)) zT_214 := ⟨zmem (n := 1542) (by decide +kernel), zmem (n := 106) (by decide +kernel), by decide +kernel, by decide +kernel, rfl, by decide +kernel, by decide +kernel, rfl, by decide +kernel, by decide +kernel⟩
theorem zJok_215 : zJok (yX12_game, cX12_game, 3, (some .int)) zT_215 := ⟨zmem (n := 1539) (by decide +kernel), zmem (n := 106) (by decide +kernel), by decide +kernel, by decide +kernel, rfl, by decide +kernel, by decide +kernel, rfl, by decide +kernel, by decide +kernel⟩
theorem zJok_216 : zJok (yX12_move, cX12_move, 6, (some .int)) zT_216 := ⟨zmem (n := 1562) (by decide +kernel), zmem (n := 106) (by decide +kernel), by decide +kernel, by decide +kernel, rfl, by decide +kernel, by decide +kernel, rfl, by decide +kernel, by decide +kernel⟩
theorem zJok_217 : zJok (yX12_report, cX12_report, 3, (some .int)) zT_217 := ⟨zmem (n := 1566) (by decide +kernel), zmem (n := 106) (by decide +kernel), by decide +kernel, by decide +kernel, rfl, by decide +kernel, by decide +kernel, rfl, by decide +kernel, by decide +kernel⟩
theorem zJok_218 : zJok (yX12_forget, cX12_forget, 2, (some .int)) zT_218 := ⟨zmem (n := 1570) (by decide +kernel), zmem (n := 106) (by decide +kernel), by decide +kernel, by decide +kernel, rfl, by decide +kernel, by decide +kernel, rfl, by decide +kernel, by decide +kernel⟩
theorem zJok_219 : zJok (yX12_isCracked, cX12_isCracked, 5, (some .boolean)) zT_219 := ⟨zmem (n := 1582) (by decide +kernel), zmem (n := 106) (by decide +kernel), by decide +kernel, by decide +kernel, rfl, by decide +kernel, by decide +kernel, rfl, by decide +kernel, by decide +kernel⟩
theorem zJok_220 : zJok (yX12_findFits, cX12_findFits, 6, none) zT_220 := ⟨zmem (n := 1578) (by decide +kernel), zmem (n := 106) (by decide +kernel), by decide +kernel, by decide +kernel, rfl, by decide +kernel, by decide +kernel, rfl, by decide +kernel, by decide +kernel⟩
theorem zJok_221 : zJok (yX12_span, cX12_span, 2, (some .int)) zT_221 := ⟨zmem (n := 1574) (by decide +kernel), zmem (n := 106) (by decide +kernel), by decide +kernel, by decide +kernel, rfl, by decide +kernel, by decide +kernel, rfl, by decide +kernel, by decide +kernel⟩
theorem zJok_222 : zJok (yX12_liar, cX12_liar, 3, (some .int)) zT_222 := ⟨zmem (n := 1586) (by decide +kernel), zmem (n := 106) (by decide +kernel), by decide +kernel, by decide +kernel, rfl, by decide +kernel, by decide +kernel, rfl, by decide +kernel, by decide +kernel⟩
theorem zJok_223 : zJok (yX12_seed, cX12_seed, 3, (some .int)) zT_223 := ⟨zmem (n := 1590) (by decide +kernel), zmem (n := 106) (by decide +kernel), by decide +kernel, by decide +kernel, rfl, by decide +kernel, by decide +kernel, rfl, by decide +kernel, by decide +kernel⟩
theorem zJok_224 : zJok (yX12_draw, cX12_draw, 1, (some .int)) zT_224 := ⟨zmem (n := 1594) (by decide +kernel), zmem (n := 106) (by decide +kernel), by decide +kernel, by decide +kernel, rfl, by decide +kernel, by decide +kernel, rfl, by decide +kernel, by decide +kernel⟩
theorem zJok_225 : zJok (yX12_often, cX12_often, 6, (some .int)) zT_225 := ⟨zmem (n := 1599) (by decide +kernel), zmem (n := 106) (by decide +kernel), by decide +kernel, by decide +kernel, rfl, by decide +kernel, by decide +kernel, rfl, by decide +kernel, by decide +kernel⟩
theorem zJok_226 : zJok (yX12_prove, cX12_prove, 3, (some .int)) zT_226 := ⟨zmem (n := 1605) (by decide +kernel), zmem (n := 106) (by decide +kernel), by decide +kernel, by decide +kernel, rfl, by decide +kernel, by decide +kernel, rfl, by decide +kernel, by decide +kernel⟩
theorem zJok_227 : zJok (yX12_isRow, cX12_isRow, 3, (some .boolean)) zT_227 := ⟨zmem (n := 1613) (by decide +kernel), zmem (n := 106) (by decide +kernel), by decide +kernel, by decide +kernel, rfl, by decide +kernel, by decide +kernel, rfl, by decide +kernel, by decide +kernel⟩
theorem zJok_228 : zJok (yX12_row, cX12_row, 3, (some .int)) zT_228 := ⟨zmem (n := 1609) (by decide +kernel), zmem (n := 106) (by decide +kernel), by decide +kernel, by decide +kernel, rfl, by decide +kernel, by decide +kernel, rfl, by decide +kernel, by decide +kernel⟩
theorem zJok_229 : zJok (yX12_alterRow, cX12_alterRow, 5, (some .int)) zT_229 := ⟨zmem (n := 1617) (by decide +kernel), zmem (n := 106) (by decide +kernel), by decide +kernel, by decide +kernel, rfl, by decide +kernel, by decide +kernel, rfl, by decide +kernel, by decide +kernel⟩
theorem zJok_230 : zJok (yX12_judge, cX12_judge, 3, (some .int)) zT_230 := ⟨zmem (n := 1621) (by decide +kernel), zmem (n := 106) (by decide +kernel), by decide +kernel, by decide +kernel, rfl, by decide +kernel, by decide +kernel, rfl, by decide +kernel, by decide +kernel⟩
theorem zJok_231 : zJok (yX12_feed, cX12_feed, 5, (some .int)) zT_231 := ⟨zmem (n := 1625) (by decide +kernel), zmem (n := 106) (by decide +kernel), by decide +kernel, by decide +kernel, rfl, by decide +kernel, by decide +kernel, rfl, by decide +kernel, by decide +kernel⟩
theorem zJok_232 : zJok (yX12_byteAt, cX12_byteAt, 2, (some .int)) zT_232 := ⟨zmem (n := 1639) (by decide +kernel), zmem (n := 106) (by decide +kernel), by decide +kernel, by decide +kernel, rfl, by decide +kernel, by decide +kernel, rfl, by decide +kernel, by decide +kernel⟩
theorem zJok_233 : zJok (yX12_isLetter, cX12_isLetter, 1, (some .boolean)) zT_233 := ⟨zmem (n := 1642) (by decide +kernel), zmem (n := 106) (by decide +kernel), by decide +kernel, by decide +kernel, rfl, by decide +kernel, by decide +kernel, rfl, by decide +kernel, by decide +kernel⟩
theorem zJok_234 : zJok (yX12_isDigit, cX12_isDigit, 1, (some .boolean)) zT_234 := ⟨zmem (n := 1647) (by decide +kernel), zmem (n := 106) (by decide +kernel), by decide +kernel, by decide +kernel, rfl, by decide +kernel, by decide +kernel, rfl, by decide +kernel, by decide +kernel⟩
theorem zJok_235 : zJok (yX12_token, cX12_token, 3, none) zT_235 := ⟨zmem (n := 1635) (by decide +kernel), zmem (n := 106) (by decide +kernel), by decide +kernel, by decide +kernel, rfl, by decide +kernel, by decide +kernel, rfl, by decide +kernel, by decide +kernel⟩
theorem zJok_236 : zJok (yX12_needs, cX12_needs, 2, none) zT_236 := ⟨zmem (n := 1673) (by decide +kernel), zmem (n := 106) (by decide +kernel), by decide +kernel, by decide +kernel, rfl, by decide +kernel, by decide +kernel, rfl, by decide +kernel, by decide +kernel⟩
theorem zJok_237 : zJok (yX12_word, cX12_word, 4, (some .long)) zT_237 := ⟨zmem (n := 1661) (by decide +kernel), zmem (n := 106) (by decide +kernel), by decide +kernel, by decide +kernel, rfl, by decide +kernel, by decide +kernel, rfl, by decide +kernel, by decide +kernel⟩
theorem zJok_238 : zJok (yX12_number, cX12_number, 4, none) zT_238 := ⟨zmem (n := 1712) (by decide +kernel), zmem (n := 106) (by decide +kernel), by decide +kernel, by decide +kernel, rfl, by decide +kernel, by decide +kernel, rfl, by decide +kernel, by decide +kernel⟩
theorem zJok_239 : zJok (yX12_kindHere, cX12_kindHere, 3, (some .int)) zT_239 := ⟨zmem (n := 1657) (by decide +kernel), zmem (n := 106) (by decide +kernel), by decide +kernel, by decide +kernel, rfl, by decide +kernel, by decide +kernel, rfl, by decide +kernel, by decide +kernel⟩
theorem zJok_240 : zJok (yX12_factHere, cX12_factHere, 3, (some .int)) zT_240 := ⟨zmem (n := 1699) (by decide +kernel), zmem (n := 106) (by decide +kernel), by decide +kernel, by decide +kernel, rfl, by decide +kernel, by decide +kernel, rfl, by decide +kernel, by decide +kernel⟩
theorem zJok_241 : zJok (yX12_writes, cX12_writes, 2, none) zT_241 := ⟨zmem (n := 1708) (by decide +kernel), zmem (n := 106) (by decide +kernel), by decide +kernel, by decide +kernel, rfl, by decide +kernel, by decide +kernel, rfl, by decide +kernel, by decide +kernel⟩
theorem zJok_242 : zJok (yX12_valueHere, cX12_valueHere, 2, none) zT_242 := ⟨zmem (n := 1695) (by decide +kernel), zmem (n := 106) (by decide +kernel), by decide +kernel, by decide +kernel, rfl, by decide +kernel, by decide +kernel, rfl, by decide +kernel, by decide +kernel⟩
theorem zJok_243 : zJok (yX12_comparison, cX12_comparison, 2, none) zT_243 := ⟨zmem (n := 1691) (by decide +kernel), zmem (n := 106) (by decide +kernel), by decide +kernel, by decide +kernel, rfl, by decide +kernel, by decide +kernel, rfl, by decide +kernel, by decide +kernel⟩
theorem zJok_244 : zJok (yX12_one, cX12_one, 2, none) zT_244 := ⟨zmem (n := 1686) (by decide +kernel), zmem (n := 106) (by decide +kernel), by decide +kernel, by decide +kernel, rfl, by decide +kernel, by decide +kernel, rfl, by decide +kernel, by decide +kernel⟩
theorem zJok_245 : zJok (yX12_all, cX12_all, 1, none) zT_245 := ⟨zmem (n := 1682) (by decide +kernel), zmem (n := 106) (by decide +kernel), by decide +kernel, by decide +kernel, rfl, by decide +kernel, by decide +kernel, rfl, by decide +kernel, by decide +kernel⟩
theorem zJok_246 : zJok (yX12_condition, cX12_condition, 1, none) zT_246 := ⟨zmem (n := 1678) (by decide +kernel), zmem (n := 106) (by decide +kernel), by decide +kernel, by decide +kernel, rfl, by decide +kernel, by decide +kernel, rfl, by decide +kernel, by decide +kernel⟩
theorem zJok_247 : zJok (yX12_rule, cX12_rule, 7, none) zT_247 := ⟨zmem (n := 1653) (by decide +kernel), zmem (n := 106) (by decide +kernel), by decide +kernel, by decide +kernel, rfl, by decide +kernel, by decide +kernel, rfl, by decide +kernel, by decide +kernel⟩
theorem zJok_248 : zJok (yX12_rules, cX12_rules, 1, (some .int)) zT_248 := ⟨zmem (n := 1631) (by decide +kernel), zmem (n := 106) (by decide +kernel), by decide +kernel, by decide +kernel, rfl, by decide +kernel, by decide +kernel, rfl, by decide +kernel, by decide +kernel⟩
theorem zJok_249 : zJok (yX12_isOne, cX12_isOne, 1, (some .boolean)) zT_249 := ⟨zmem (n := 1724) (by decide +kernel), zmem (n := 106) (by decide +kernel), by decide +kernel, by decide +kernel, rfl, by decide +kernel, by decide +kernel, rfl, by decide +kernel, by decide +kernel⟩
theorem zJok_250 : zJok (yX12_sheet, cX12_sheet, 5, (some .int)) zT_250 := ⟨zmem (n := 1721) (by decide +kernel), zmem (n := 106) (by decide +kernel), by decide +kernel, by decide +kernel, rfl, by decide +kernel, by decide +kernel, rfl, by decide +kernel, by decide +kernel⟩
theorem zJok_251 : zJok (yX12_narrowed, cX12_narrowed, 2, (some .int)) zT_251 := ⟨zmem (n := 1732) (by decide +kernel), zmem (n := 106) (by decide +kernel), by decide +kernel, by decide +kernel, rfl, by decide +kernel, by decide +kernel, rfl, by decide +kernel, by decide +kernel⟩
theorem zJok_252 : zJok (yX12_write, cX12_write, 4, (some .int)) zT_252 := ⟨zmem (n := 1729) (by decide +kernel), zmem (n := 106) (by decide +kernel), by decide +kernel, by decide +kernel, rfl, by decide +kernel, by decide +kernel, rfl, by decide +kernel, by decide +kernel⟩
theorem zJok_253 : zJok (yX12_wrong, cX12_wrong, 3, (some .int)) zT_253 := ⟨zmem (n := 1740) (by decide +kernel), zmem (n := 106) (by decide +kernel), by decide +kernel, by decide +kernel, rfl, by decide +kernel, by decide +kernel, rfl, by decide +kernel, by decide +kernel⟩
theorem zJok_254 : zJok (yX12_item, cX12_item, 5, (some .int)) zT_254 := ⟨zmem (n := 1736) (by decide +kernel), zmem (n := 106) (by decide +kernel), by decide +kernel, by decide +kernel, rfl, by decide +kernel, by decide +kernel, rfl, by decide +kernel, by decide +kernel⟩
theorem zJok_255 : zJok (yX12_climbs, cX12_climbs, 9, (some .int)) zT_255 := ⟨zmem (n := 1744) (by decide +kernel), zmem (n := 106) (by decide +kernel), by decide +kernel, by decide +kernel, rfl, by decide +kernel, by decide +kernel, rfl, by decide +kernel, by decide +kernel⟩
theorem zJok_256 : zJok (yX12_shelf, cX12_shelf, 4, (some .int)) zT_256 := ⟨zmem (n := 1750) (by decide +kernel), zmem (n := 106) (by decide +kernel), by decide +kernel, by decide +kernel, rfl, by decide +kernel, by decide +kernel, rfl, by decide +kernel, by decide +kernel⟩
theorem zJok_257 : zJok (yX12_onShelf, cX12_onShelf, 2, (some .int)) zT_257 := ⟨zmem (n := 1760) (by decide +kernel), zmem (n := 106) (by decide +kernel), by decide +kernel, by decide +kernel, rfl, by decide +kernel, by decide +kernel, rfl, by decide +kernel, by decide +kernel⟩
theorem zJok_258 : zJok (yX12_taken, cX12_taken, 5, (some .int)) zT_258 := ⟨zmem (n := 1754) (by decide +kernel), zmem (n := 106) (by decide +kernel), by decide +kernel, by decide +kernel, rfl, by decide +kernel, by decide +kernel, rfl, by decide +kernel, by decide +kernel⟩
theorem zJok_259 : zJok (yX12_runs, cX12_runs, 2, none) zT_259 := ⟨zmem (n := 1772) (by decide +kernel), zmem (n := 106) (by decide +kernel), by decide +kernel, by decide +kernel, rfl, by decide +kernel, by decide +kernel, rfl, by decide +kernel, by decide +kernel⟩
theorem zJok_260 : zJok (yX12_sways, cX12_sways, 2, (some .int)) zT_260 := ⟨zmem (n := 1768) (by decide +kernel), zmem (n := 106) (by decide +kernel), by decide +kernel, by decide +kernel, rfl, by decide +kernel, by decide +kernel, rfl, by decide +kernel, by decide +kernel⟩
theorem zJok_261 : zJok (yX12_bends, cX12_bends, 4, (some .int)) zT_261 := ⟨zmem (n := 1776) (by decide +kernel), zmem (n := 106) (by decide +kernel), by decide +kernel, by decide +kernel, rfl, by decide +kernel, by decide +kernel, rfl, by decide +kernel, by decide +kernel⟩
theorem zJok_262 : zJok (yX12_parts, cX12_parts, 2, (some .int)) zT_262 := ⟨zmem (n := 1784) (by decide +kernel), zmem (n := 106) (by decide +kernel), by decide +kernel, by decide +kernel, rfl, by decide +kernel, by decide +kernel, rfl, by decide +kernel, by decide +kernel⟩
theorem zJok_263 : zJok (yX12_shares, cX12_shares, 3, (some .int)) zT_263 := ⟨zmem (n := 1780) (by decide +kernel), zmem (n := 106) (by decide +kernel), by decide +kernel, by decide +kernel, rfl, by decide +kernel, by decide +kernel, rfl, by decide +kernel, by decide +kernel⟩
theorem zJok_264 : zJok (yX12_tells, cX12_tells, 3, (some .int)) zT_264 := ⟨zmem (n := 1788) (by decide +kernel), zmem (n := 106) (by decide +kernel), by decide +kernel, by decide +kernel, rfl, by decide +kernel, by decide +kernel, rfl, by decide +kernel, by decide +kernel⟩
theorem zJok_265 : zJok (yX12_act, cX12_act, 5, (some .int)) zT_265 := ⟨zmem (n := 1764) (by decide +kernel), zmem (n := 106) (by decide +kernel), by decide +kernel, by decide +kernel, rfl, by decide +kernel, by decide +kernel, rfl, by decide +kernel, by decide +kernel⟩
theorem zJok_266 : zJok (yX12_traced, cX12_traced, 1, (some .int)) zT_266 := ⟨zmem (n := 1796) (by decide +kernel), zmem (n := 106) (by decide +kernel), by decide +kernel, by decide +kernel, rfl, by decide +kernel, by decide +kernel, rfl, by decide +kernel, by decide +kernel⟩
theorem zJok_267 : zJok (yX12_trace, cX12_trace, 2, (some .int)) zT_267 := ⟨zmem (n := 1792) (by decide +kernel), zmem (n := 106) (by decide +kernel), by decide +kernel, by decide +kernel, rfl, by decide +kernel, by decide +kernel, rfl, by decide +kernel, by decide +kernel⟩
theorem zJok_268 : zJok (yX12_many, cX12_many, 2, (some .int)) zT_268 := ⟨zmem (n := 1800) (by decide +kernel), zmem (n := 106) (by decide +kernel), by decide +kernel, by decide +kernel, rfl, by decide +kernel, by decide +kernel, rfl, by decide +kernel, by decide +kernel⟩
theorem zJok_269 : zJok (yX12_keep, cX12_keep, 2, (some .int)) zT_269 := ⟨zmem (n := 1804) (by decide +kernel), zmem (n := 106) (by decide +kernel), by decide +kernel, by decide +kernel, rfl, by decide +kernel, by decide +kernel, rfl, by decide +kernel, by decide +kernel⟩
theorem zJok_270 : zJok (yX12_again, cX12_again, 2, (some .int)) zT_270 := ⟨zmem (n := 1808) (by decide +kernel), zmem (n := 106) (by decide +kernel), by decide +kernel, by decide +kernel, rfl, by decide +kernel, by decide +kernel, rfl, by decide +kernel, by decide +kernel⟩
theorem zJok_271 : zJok (yJ6_bitCount_0f7a4, cJ6_bitCount_0f7a4, 1, (some .int)) zT_271 := ⟨zmem (n := 903) (by decide +kernel), zmem (n := 113) (by decide +kernel), by decide +kernel, by decide +kernel, rfl, by decide +kernel, by decide +kernel, rfl, by decide +kernel, by decide +kernel⟩
theorem zJok_274 : zJok (yJ0_length_8abf5, cJ0_length_8abf5, 1, (some .int)) zT_274 := ⟨zmem (n := 611) (by decide +kernel), zmem (n := 108) (by decide +kernel), by decide +kernel, by decide +kernel, rfl, by decide +kernel, by decide +kernel, rfl, by decide +kernel, by decide +kernel⟩
theorem zJok_275 : zJok (yJ0_charAt_5068e, cJ0_charAt_5068e, 2, (some .char)) zT_275 := ⟨zmem (n := 621) (by decide +kernel), zmem (n := 108) (by decide +kernel), by decide +kernel, by decide +kernel, rfl, by decide +kernel, by decide +kernel, rfl, by decide +kernel, by decide +kernel⟩
theorem zJok_276 : zJok (yJ0_coder_7d493, cJ0_coder_7d493, 1, (some .byte)) zT_276 := ⟨zmem (n := 615) (by decide +kernel), zmem (n := 108) (by decide +kernel), by decide +kernel, by decide +kernel, rfl, by decide +kernel, by decide +kernel, rfl, by decide +kernel, by decide +kernel⟩
theorem zJok_277 : zJok (yJ0_isLatin1_aae02, cJ0_isLatin1_aae02, 1, (some .boolean)) zT_277 := ⟨zmem (n := 625) (by decide +kernel), zmem (n := 108) (by decide +kernel), by decide +kernel, by decide +kernel, rfl, by decide +kernel, by decide +kernel, rfl, by decide +kernel, by decide +kernel⟩
theorem zJok_278 : zJok (yJ0_checkIndex_df160, cJ0_checkIndex_df160, 2, none) zT_278 := ⟨zmem (n := 631) (by decide +kernel), zmem (n := 108) (by decide +kernel), by decide +kernel, by decide +kernel, rfl, by decide +kernel, by decide +kernel, rfl, by decide +kernel, by decide +kernel⟩
theorem zJok_279 : zJok (yJ1_charAt_3b067, cJ1_charAt_3b067, 2, (some .char)) zT_279 := ⟨zmem (n := 628) (by decide +kernel), zmem (n := 109) (by decide +kernel), by decide +kernel, by decide +kernel, rfl, by decide +kernel, by decide +kernel, rfl, by decide +kernel, by decide +kernel⟩
theorem zJok_280 : zJok (yJ3_checkIndex_8e157, cJ3_checkIndex_8e157, 3, (some .int)) zT_280 := ⟨zmem (n := 636) (by decide +kernel), zmem (n := 110) (by decide +kernel), by decide +kernel, by decide +kernel, rfl, by decide +kernel, by decide +kernel, rfl, by decide +kernel, by decide +kernel⟩
theorem zJall_0 : ∀ j q T, zME[j]? = some q → zTL[j]? = some T → 0 ≤ j → j < 40 → zbi j = none → zJok q T := by
  intro j q T h1 h2 h3 h4 h5
  obtain ⟨k, rfl⟩ : ∃ k, j = 0 + k := ⟨j - 0, by omega⟩
  have hk : k < 40 := by omega
  match k, hk, h1, h2, h5 with
  | 0, _, h1, h2, _ => cases h1; cases h2; exact zJok_0
  | 1, _, h1, h2, _ => cases h1; cases h2; exact zJok_1
  | 2, _, h1, h2, _ => cases h1; cases h2; exact zJok_2
  | 3, _, h1, h2, _ => cases h1; cases h2; exact zJok_3
  | 4, _, h1, h2, _ => cases h1; cases h2; exact zJok_4
  | 5, _, h1, h2, _ => cases h1; cases h2; exact zJok_5
  | 6, _, h1, h2, _ => cases h1; cases h2; exact zJok_6
  | 7, _, h1, h2, _ => cases h1; cases h2; exact zJok_7
  | 8, _, h1, h2, _ => cases h1; cases h2; exact zJok_8
  | 9, _, h1, h2, _ => cases h1; cases h2; exact zJok_9
  | 10, _, h1, h2, _ => cases h1; cases h2; exact zJok_10
  | 11, _, h1, h2, _ => cases h1; cases h2; exact zJok_11
  | 12, _, h1, h2, _ => cases h1; cases h2; exact zJok_12
  | 13, _, h1, h2, _ => cases h1; cases h2; exact zJok_13
  | 14, _, h1, h2, _ => cases h1; cases h2; exact zJok_14
  | 15, _, h1, h2, _ => cases h1; cases h2; exact zJok_15
  | 16, _, h1, h2, _ => cases h1; cases h2; exact zJok_16
  | 17, _, h1, h2, _ => cases h1; cases h2; exact zJok_17
  | 18, _, h1, h2, _ => cases h1; cases h2; exact zJok_18
  | 19, _, h1, h2, _ => cases h1; cases h2; exact zJok_19
  | 20, _, h1, h2, _ => cases h1; cases h2; exact zJok_20
  | 21, _, h1, h2, _ => cases h1; cases h2; exact zJok_21
  | 22, _, h1, h2, _ => cases h1; cases h2; exact zJok_22
  | 23, _, h1, h2, _ => cases h1; cases h2; exact zJok_23
  | 24, _, h1, h2, _ => cases h1; cases h2; exact zJok_24
  | 25, _, h1, h2, _ => cases h1; cases h2; exact zJok_25
  | 26, _, h1, h2, _ => cases h1; cases h2; exact zJok_26
  | 27, _, h1, h2, _ => cases h1; cases h2; exact zJok_27
  | 28, _, h1, h2, _ => cases h1; cases h2; exact zJok_28
  | 29, _, h1, h2, _ => cases h1; cases h2; exact zJok_29
  | 30, _, h1, h2, _ => cases h1; cases h2; exact zJok_30
  | 31, _, h1, h2, _ => cases h1; cases h2; exact zJok_31
  | 32, _, h1, h2, _ => cases h1; cases h2; exact zJok_32
  | 33, _, h1, h2, _ => cases h1; cases h2; exact zJok_33
  | 34, _, h1, h2, _ => cases h1; cases h2; exact zJok_34
  | 35, _, h1, h2, _ => cases h1; cases h2; exact zJok_35
  | 36, _, h1, h2, _ => cases h1; cases h2; exact zJok_36
  | 37, _, h1, h2, _ => cases h1; cases h2; exact zJok_37
  | 38, _, h1, h2, _ => cases h1; cases h2; exact zJok_38
  | 39, _, h1, h2, _ => cases h1; cases h2; exact zJok_39
  | k + 40, hk, _, _, _ => exact absurd hk (by omega)
theorem zJall_1 : ∀ j q T, zME[j]? = some q → zTL[j]? = some T → 40 ≤ j → j < 80 → zbi j = none → zJok q T := by
  intro j q T h1 h2 h3 h4 h5
  obtain ⟨k, rfl⟩ : ∃ k, j = 40 + k := ⟨j - 40, by omega⟩
  have hk : k < 40 := by omega
  match k, hk, h1, h2, h5 with
  | 0, _, h1, h2, _ => cases h1; cases h2; exact zJok_40
  | 1, _, h1, h2, _ => cases h1; cases h2; exact zJok_41
  | 2, _, h1, h2, _ => cases h1; cases h2; exact zJok_42
  | 3, _, h1, h2, _ => cases h1; cases h2; exact zJok_43
  | 4, _, h1, h2, _ => cases h1; cases h2; exact zJok_44
  | 5, _, h1, h2, _ => cases h1; cases h2; exact zJok_45
  | 6, _, h1, h2, _ => cases h1; cases h2; exact zJok_46
  | 7, _, h1, h2, _ => cases h1; cases h2; exact zJok_47
  | 8, _, h1, h2, _ => cases h1; cases h2; exact zJok_48
  | 9, _, h1, h2, _ => cases h1; cases h2; exact zJok_49
  | 10, _, h1, h2, _ => cases h1; cases h2; exact zJok_50
  | 11, _, h1, h2, _ => cases h1; cases h2; exact zJok_51
  | 12, _, h1, h2, _ => cases h1; cases h2; exact zJok_52
  | 13, _, h1, h2, _ => cases h1; cases h2; exact zJok_53
  | 14, _, h1, h2, _ => cases h1; cases h2; exact zJok_54
  | 15, _, h1, h2, _ => cases h1; cases h2; exact zJok_55
  | 16, _, h1, h2, _ => cases h1; cases h2; exact zJok_56
  | 17, _, h1, h2, _ => cases h1; cases h2; exact zJok_57
  | 18, _, h1, h2, _ => cases h1; cases h2; exact zJok_58
  | 19, _, h1, h2, _ => cases h1; cases h2; exact zJok_59
  | 20, _, h1, h2, _ => cases h1; cases h2; exact zJok_60
  | 21, _, h1, h2, _ => cases h1; cases h2; exact zJok_61
  | 22, _, h1, h2, _ => cases h1; cases h2; exact zJok_62
  | 23, _, h1, h2, _ => cases h1; cases h2; exact zJok_63
  | 24, _, h1, h2, _ => cases h1; cases h2; exact zJok_64
  | 25, _, h1, h2, _ => cases h1; cases h2; exact zJok_65
  | 26, _, h1, h2, _ => cases h1; cases h2; exact zJok_66
  | 27, _, h1, h2, _ => cases h1; cases h2; exact zJok_67
  | 28, _, h1, h2, _ => cases h1; cases h2; exact zJok_68
  | 29, _, h1, h2, _ => cases h1; cases h2; exact zJok_69
  | 30, _, h1, h2, _ => cases h1; cases h2; exact zJok_70
  | 31, _, h1, h2, _ => cases h1; cases h2; exact zJok_71
  | 32, _, h1, h2, _ => cases h1; cases h2; exact zJok_72
  | 33, _, h1, h2, _ => cases h1; cases h2; exact zJok_73
  | 34, _, h1, h2, _ => cases h1; cases h2; exact zJok_74
  | 35, _, h1, h2, _ => cases h1; cases h2; exact zJok_75
  | 36, _, h1, h2, _ => cases h1; cases h2; exact zJok_76
  | 37, _, h1, h2, _ => cases h1; cases h2; exact zJok_77
  | 38, _, h1, h2, _ => cases h1; cases h2; exact zJok_78
  | 39, _, h1, h2, _ => cases h1; cases h2; exact zJok_79
  | k + 40, hk, _, _, _ => exact absurd hk (by omega)
theorem zJall_2 : ∀ j q T, zME[j]? = some q → zTL[j]? = some T → 80 ≤ j → j < 120 → zbi j = none → zJok q T := by
  intro j q T h1 h2 h3 h4 h5
  obtain ⟨k, rfl⟩ : ∃ k, j = 80 + k := ⟨j - 80, by omega⟩
  have hk : k < 40 := by omega
  match k, hk, h1, h2, h5 with
  | 0, _, h1, h2, _ => cases h1; cases h2; exact zJok_80
  | 1, _, h1, h2, _ => cases h1; cases h2; exact zJok_81
  | 2, _, h1, h2, _ => cases h1; cases h2; exact zJok_82
  | 3, _, h1, h2, _ => cases h1; cases h2; exact zJok_83
  | 4, _, h1, h2, _ => cases h1; cases h2; exact zJok_84
  | 5, _, h1, h2, _ => cases h1; cases h2; exact zJok_85
  | 6, _, h1, h2, _ => cases h1; cases h2; exact zJok_86
  | 7, _, h1, h2, _ => cases h1; cases h2; exact zJok_87
  | 8, _, h1, h2, _ => cases h1; cases h2; exact zJok_88
  | 9, _, h1, h2, _ => cases h1; cases h2; exact zJok_89
  | 10, _, h1, h2, _ => cases h1; cases h2; exact zJok_90
  | 11, _, h1, h2, _ => cases h1; cases h2; exact zJok_91
  | 12, _, h1, h2, _ => cases h1; cases h2; exact zJok_92
  | 13, _, h1, h2, _ => cases h1; cases h2; exact zJok_93
  | 14, _, h1, h2, _ => cases h1; cases h2; exact zJok_94
  | 15, _, h1, h2, _ => cases h1; cases h2; exact zJok_95
  | 16, _, h1, h2, _ => cases h1; cases h2; exact zJok_96
  | 17, _, h1, h2, _ => cases h1; cases h2; exact zJok_97
  | 18, _, h1, h2, _ => cases h1; cases h2; exact zJok_98
  | 19, _, h1, h2, _ => cases h1; cases h2; exact zJok_99
  | 20, _, h1, h2, _ => cases h1; cases h2; exact zJok_100
  | 21, _, h1, h2, _ => cases h1; cases h2; exact zJok_101
  | 22, _, h1, h2, _ => cases h1; cases h2; exact zJok_102
  | 23, _, h1, h2, _ => cases h1; cases h2; exact zJok_103
  | 24, _, h1, h2, _ => cases h1; cases h2; exact zJok_104
  | 25, _, h1, h2, _ => cases h1; cases h2; exact zJok_105
  | 26, _, h1, h2, _ => cases h1; cases h2; exact zJok_106
  | 27, _, h1, h2, _ => cases h1; cases h2; exact zJok_107
  | 28, _, h1, h2, _ => cases h1; cases h2; exact zJok_108
  | 29, _, h1, h2, _ => cases h1; cases h2; exact zJok_109
  | 30, _, h1, h2, _ => cases h1; cases h2; exact zJok_110
  | 31, _, h1, h2, _ => cases h1; cases h2; exact zJok_111
  | 32, _, h1, h2, _ => cases h1; cases h2; exact zJok_112
  | 33, _, h1, h2, _ => cases h1; cases h2; exact zJok_113
  | 34, _, h1, h2, _ => cases h1; cases h2; exact zJok_114
  | 35, _, h1, h2, _ => cases h1; cases h2; exact zJok_115
  | 36, _, h1, h2, _ => cases h1; cases h2; exact zJok_116
  | 37, _, h1, h2, _ => cases h1; cases h2; exact zJok_117
  | 38, _, h1, h2, _ => cases h1; cases h2; exact zJok_118
  | 39, _, h1, h2, _ => cases h1; cases h2; exact zJok_119
  | k + 40, hk, _, _, _ => exact absurd hk (by omega)
theorem zJall_3 : ∀ j q T, zME[j]? = some q → zTL[j]? = some T → 120 ≤ j → j < 160 → zbi j = none → zJok q T := by
  intro j q T h1 h2 h3 h4 h5
  obtain ⟨k, rfl⟩ : ∃ k, j = 120 + k := ⟨j - 120, by omega⟩
  have hk : k < 40 := by omega
  match k, hk, h1, h2, h5 with
  | 0, _, h1, h2, _ => cases h1; cases h2; exact zJok_120
  | 1, _, h1, h2, _ => cases h1; cases h2; exact zJok_121
  | 2, _, h1, h2, _ => cases h1; cases h2; exact zJok_122
  | 3, _, h1, h2, _ => cases h1; cases h2; exact zJok_123
  | 4, _, h1, h2, _ => cases h1; cases h2; exact zJok_124
  | 5, _, h1, h2, _ => cases h1; cases h2; exact zJok_125
  | 6, _, h1, h2, _ => cases h1; cases h2; exact zJok_126
  | 7, _, h1, h2, _ => cases h1; cases h2; exact zJok_127
  | 8, _, h1, h2, _ => cases h1; cases h2; exact zJok_128
  | 9, _, h1, h2, _ => cases h1; cases h2; exact zJok_129
  | 10, _, h1, h2, _ => cases h1; cases h2; exact zJok_130
  | 11, _, h1, h2, _ => cases h1; cases h2; exact zJok_131
  | 12, _, h1, h2, _ => cases h1; cases h2; exact zJok_132
  | 13, _, h1, h2, _ => cases h1; cases h2; exact zJok_133
  | 14, _, h1, h2, _ => cases h1; cases h2; exact zJok_134
  | 15, _, h1, h2, _ => cases h1; cases h2; exact zJok_135
  | 16, _, h1, h2, _ => cases h1; cases h2; exact zJok_136
  | 17, _, h1, h2, _ => cases h1; cases h2; exact zJok_137
  | 18, _, h1, h2, _ => cases h1; cases h2; exact zJok_138
  | 19, _, h1, h2, _ => cases h1; cases h2; exact zJok_139
  | 20, _, h1, h2, _ => cases h1; cases h2; exact zJok_140
  | 21, _, h1, h2, _ => cases h1; cases h2; exact zJok_141
  | 22, _, h1, h2, _ => cases h1; cases h2; exact zJok_142
  | 23, _, h1, h2, _ => cases h1; cases h2; exact zJok_143
  | 24, _, h1, h2, _ => cases h1; cases h2; exact zJok_144
  | 25, _, h1, h2, _ => cases h1; cases h2; exact zJok_145
  | 26, _, h1, h2, _ => cases h1; cases h2; exact zJok_146
  | 27, _, h1, h2, _ => cases h1; cases h2; exact zJok_147
  | 28, _, h1, h2, _ => cases h1; cases h2; exact zJok_148
  | 29, _, h1, h2, _ => cases h1; cases h2; exact zJok_149
  | 30, _, h1, h2, _ => cases h1; cases h2; exact zJok_150
  | 31, _, h1, h2, _ => cases h1; cases h2; exact zJok_151
  | 32, _, h1, h2, _ => cases h1; cases h2; exact zJok_152
  | 33, _, h1, h2, _ => cases h1; cases h2; exact zJok_153
  | 34, _, h1, h2, _ => cases h1; cases h2; exact zJok_154
  | 35, _, h1, h2, _ => cases h1; cases h2; exact zJok_155
  | 36, _, h1, h2, _ => cases h1; cases h2; exact zJok_156
  | 37, _, h1, h2, _ => cases h1; cases h2; exact zJok_157
  | 38, _, h1, h2, _ => cases h1; cases h2; exact zJok_158
  | 39, _, h1, h2, _ => cases h1; cases h2; exact zJok_159
  | k + 40, hk, _, _, _ => exact absurd hk (by omega)
theorem zJall_4 : ∀ j q T, zME[j]? = some q → zTL[j]? = some T → 160 ≤ j → j < 200 → zbi j = none → zJok q T := by
  intro j q T h1 h2 h3 h4 h5
  obtain ⟨k, rfl⟩ : ∃ k, j = 160 + k := ⟨j - 160, by omega⟩
  have hk : k < 40 := by omega
  match k, hk, h1, h2, h5 with
  | 0, _, h1, h2, _ => cases h1; cases h2; exact zJok_160
  | 1, _, h1, h2, _ => cases h1; cases h2; exact zJok_161
  | 2, _, h1, h2, _ => cases h1; cases h2; exact zJok_162
  | 3, _, h1, h2, _ => cases h1; cases h2; exact zJok_163
  | 4, _, h1, h2, _ => cases h1; cases h2; exact zJok_164
  | 5, _, h1, h2, _ => cases h1; cases h2; exact zJok_165
  | 6, _, h1, h2, _ => cases h1; cases h2; exact zJok_166
  | 7, _, h1, h2, _ => cases h1; cases h2; exact zJok_167
  | 8, _, h1, h2, _ => cases h1; cases h2; exact zJok_168
  | 9, _, h1, h2, _ => cases h1; cases h2; exact zJok_169
  | 10, _, h1, h2, _ => cases h1; cases h2; exact zJok_170
  | 11, _, h1, h2, _ => cases h1; cases h2; exact zJok_171
  | 12, _, h1, h2, _ => cases h1; cases h2; exact zJok_172
  | 13, _, h1, h2, _ => cases h1; cases h2; exact zJok_173
  | 14, _, h1, h2, _ => cases h1; cases h2; exact zJok_174
  | 15, _, h1, h2, _ => cases h1; cases h2; exact zJok_175
  | 16, _, h1, h2, _ => cases h1; cases h2; exact zJok_176
  | 17, _, h1, h2, _ => cases h1; cases h2; exact zJok_177
  | 18, _, h1, h2, _ => cases h1; cases h2; exact zJok_178
  | 19, _, h1, h2, _ => cases h1; cases h2; exact zJok_179
  | 20, _, h1, h2, _ => cases h1; cases h2; exact zJok_180
  | 21, _, h1, h2, _ => cases h1; cases h2; exact zJok_181
  | 22, _, h1, h2, _ => cases h1; cases h2; exact zJok_182
  | 23, _, h1, h2, _ => cases h1; cases h2; exact zJok_183
  | 24, _, h1, h2, _ => cases h1; cases h2; exact zJok_184
  | 25, _, h1, h2, _ => cases h1; cases h2; exact zJok_185
  | 26, _, h1, h2, _ => cases h1; cases h2; exact zJok_186
  | 27, _, h1, h2, _ => cases h1; cases h2; exact zJok_187
  | 28, _, h1, h2, _ => cases h1; cases h2; exact zJok_188
  | 29, _, h1, h2, _ => cases h1; cases h2; exact zJok_189
  | 30, _, h1, h2, _ => cases h1; cases h2; exact zJok_190
  | 31, _, h1, h2, _ => cases h1; cases h2; exact zJok_191
  | 32, _, h1, h2, _ => cases h1; cases h2; exact zJok_192
  | 33, _, h1, h2, _ => cases h1; cases h2; exact zJok_193
  | 34, _, h1, h2, _ => cases h1; cases h2; exact zJok_194
  | 35, _, h1, h2, _ => cases h1; cases h2; exact zJok_195
  | 36, _, h1, h2, _ => cases h1; cases h2; exact zJok_196
  | 37, _, h1, h2, _ => cases h1; cases h2; exact zJok_197
  | 38, _, h1, h2, _ => cases h1; cases h2; exact zJok_198
  | 39, _, h1, h2, _ => cases h1; cases h2; exact zJok_199
  | k + 40, hk, _, _, _ => exact absurd hk (by omega)
theorem zJall_5 : ∀ j q T, zME[j]? = some q → zTL[j]? = some T → 200 ≤ j → j < 240 → zbi j = none → zJok q T := by
  intro j q T h1 h2 h3 h4 h5
  obtain ⟨k, rfl⟩ : ∃ k, j = 200 + k := ⟨j - 200, by omega⟩
  have hk : k < 40 := by omega
  match k, hk, h1, h2, h5 with
  | 0, _, h1, h2, _ => cases h1; cases h2; exact zJok_200
  | 1, _, h1, h2, _ => cases h1; cases h2; exact zJok_201
  | 2, _, h1, h2, _ => cases h1; cases h2; exact zJok_202
  | 3, _, h1, h2, _ => cases h1; cases h2; exact zJok_203
  | 4, _, h1, h2, _ => cases h1; cases h2; exact zJok_204
  | 5, _, h1, h2, _ => cases h1; cases h2; exact zJok_205
  | 6, _, h1, h2, _ => cases h1; cases h2; exact zJok_206
  | 7, _, h1, h2, _ => cases h1; cases h2; exact zJok_207
  | 8, _, h1, h2, _ => cases h1; cases h2; exact zJok_208
  | 9, _, h1, h2, _ => cases h1; cases h2; exact zJok_209
  | 10, _, h1, h2, _ => cases h1; cases h2; exact zJok_210
  | 11, _, h1, h2, _ => cases h1; cases h2; exact zJok_211
  | 12, _, h1, h2, _ => cases h1; cases h2; exact zJok_212
  | 13, _, h1, h2, _ => cases h1; cases h2; exact zJok_213
  | 14, _, h1, h2, _ => cases h1; cases h2; exact zJok_214
  | 15, _, h1, h2, _ => cases h1; cases h2; exact zJok_215
  | 16, _, h1, h2, _ => cases h1; cases h2; exact zJok_216
  | 17, _, h1, h2, _ => cases h1; cases h2; exact zJok_217
  | 18, _, h1, h2, _ => cases h1; cases h2; exact zJok_218
  | 19, _, h1, h2, _ => cases h1; cases h2; exact zJok_219
  | 20, _, h1, h2, _ => cases h1; cases h2; exact zJok_220
  | 21, _, h1, h2, _ => cases h1; cases h2; exact zJok_221
  | 22, _, h1, h2, _ => cases h1; cases h2; exact zJok_222
  | 23, _, h1, h2, _ => cases h1; cases h2; exact zJok_223
  | 24, _, h1, h2, _ => cases h1; cases h2; exact zJok_224
  | 25, _, h1, h2, _ => cases h1; cases h2; exact zJok_225
  | 26, _, h1, h2, _ => cases h1; cases h2; exact zJok_226
  | 27, _, h1, h2, _ => cases h1; cases h2; exact zJok_227
  | 28, _, h1, h2, _ => cases h1; cases h2; exact zJok_228
  | 29, _, h1, h2, _ => cases h1; cases h2; exact zJok_229
  | 30, _, h1, h2, _ => cases h1; cases h2; exact zJok_230
  | 31, _, h1, h2, _ => cases h1; cases h2; exact zJok_231
  | 32, _, h1, h2, _ => cases h1; cases h2; exact zJok_232
  | 33, _, h1, h2, _ => cases h1; cases h2; exact zJok_233
  | 34, _, h1, h2, _ => cases h1; cases h2; exact zJok_234
  | 35, _, h1, h2, _ => cases h1; cases h2; exact zJok_235
  | 36, _, h1, h2, _ => cases h1; cases h2; exact zJok_236
  | 37, _, h1, h2, _ => cases h1; cases h2; exact zJok_237
  | 38, _, h1, h2, _ => cases h1; cases h2; exact zJok_238
  | 39, _, h1, h2, _ => cases h1; cases h2; exact zJok_239
  | k + 40, hk, _, _, _ => exact absurd hk (by omega)
theorem zJall_6 : ∀ j q T, zME[j]? = some q → zTL[j]? = some T → 240 ≤ j → j < 280 → zbi j = none → zJok q T := by
  intro j q T h1 h2 h3 h4 h5
  obtain ⟨k, rfl⟩ : ∃ k, j = 240 + k := ⟨j - 240, by omega⟩
  have hk : k < 40 := by omega
  match k, hk, h1, h2, h5 with
  | 0, _, h1, h2, _ => cases h1; cases h2; exact zJok_240
  | 1, _, h1, h2, _ => cases h1; cases h2; exact zJok_241
  | 2, _, h1, h2, _ => cases h1; cases h2; exact zJok_242
  | 3, _, h1, h2, _ => cases h1; cases h2; exact zJok_243
  | 4, _, h1, h2, _ => cases h1; cases h2; exact zJok_244
  | 5, _, h1, h2, _ => cases h1; cases h2; exact zJok_245
  | 6, _, h1, h2, _ => cases h1; cases h2; exact zJok_246
  | 7, _, h1, h2, _ => cases h1; cases h2; exact zJok_247
  | 8, _, h1, h2, _ => cases h1; cases h2; exact zJok_248
  | 9, _, h1, h2, _ => cases h1; cases h2; exact zJok_249
  | 10, _, h1, h2, _ => cases h1; cases h2; exact zJok_250
  | 11, _, h1, h2, _ => cases h1; cases h2; exact zJok_251
  | 12, _, h1, h2, _ => cases h1; cases h2; exact zJok_252
  | 13, _, h1, h2, _ => cases h1; cases h2; exact zJok_253
  | 14, _, h1, h2, _ => cases h1; cases h2; exact zJok_254
  | 15, _, h1, h2, _ => cases h1; cases h2; exact zJok_255
  | 16, _, h1, h2, _ => cases h1; cases h2; exact zJok_256
  | 17, _, h1, h2, _ => cases h1; cases h2; exact zJok_257
  | 18, _, h1, h2, _ => cases h1; cases h2; exact zJok_258
  | 19, _, h1, h2, _ => cases h1; cases h2; exact zJok_259
  | 20, _, h1, h2, _ => cases h1; cases h2; exact zJok_260
  | 21, _, h1, h2, _ => cases h1; cases h2; exact zJok_261
  | 22, _, h1, h2, _ => cases h1; cases h2; exact zJok_262
  | 23, _, h1, h2, _ => cases h1; cases h2; exact zJok_263
  | 24, _, h1, h2, _ => cases h1; cases h2; exact zJok_264
  | 25, _, h1, h2, _ => cases h1; cases h2; exact zJok_265
  | 26, _, h1, h2, _ => cases h1; cases h2; exact zJok_266
  | 27, _, h1, h2, _ => cases h1; cases h2; exact zJok_267
  | 28, _, h1, h2, _ => cases h1; cases h2; exact zJok_268
  | 29, _, h1, h2, _ => cases h1; cases h2; exact zJok_269
  | 30, _, h1, h2, _ => cases h1; cases h2; exact zJok_270
  | 31, _, h1, h2, _ => cases h1; cases h2; exact zJok_271
  | 32, _, _, _, h5 => exact absurd h5 (by decide +kernel)
  | 33, _, _, _, h5 => exact absurd h5 (by decide +kernel)
  | 34, _, h1, h2, _ => cases h1; cases h2; exact zJok_274
  | 35, _, h1, h2, _ => cases h1; cases h2; exact zJok_275
  | 36, _, h1, h2, _ => cases h1; cases h2; exact zJok_276
  | 37, _, h1, h2, _ => cases h1; cases h2; exact zJok_277
  | 38, _, h1, h2, _ => cases h1; cases h2; exact zJok_278
  | 39, _, h1, h2, _ => cases h1; cases h2; exact zJok_279
  | k + 40, hk, _, _, _ => exact absurd hk (by omega)
theorem zJall_7 : ∀ j q T, zME[j]? = some q → zTL[j]? = some T → 280 ≤ j → j < 281 → zbi j = none → zJok q T := by
  intro j q T h1 h2 h3 h4 h5
  obtain ⟨k, rfl⟩ : ∃ k, j = 280 + k := ⟨j - 280, by omega⟩
  have hk : k < 1 := by omega
  match k, hk, h1, h2, h5 with
  | 0, _, h1, h2, _ => cases h1; cases h2; exact zJok_280
  | k + 1, hk, _, _, _ => exact absurd hk (by omega)
theorem zJall : ∀ j q T, zME[j]? = some q → zTL[j]? = some T → j < 281 → zbi j = none → zJok q T := by
  intro j q T h1 h2 h3 hz
  rcases Nat.lt_or_ge j 40 with h | g0
  · exact zJall_0 j q T h1 h2 (by omega) h hz
  rcases Nat.lt_or_ge j 80 with h | g1
  · exact zJall_1 j q T h1 h2 (by omega) h hz
  rcases Nat.lt_or_ge j 120 with h | g2
  · exact zJall_2 j q T h1 h2 (by omega) h hz
  rcases Nat.lt_or_ge j 160 with h | g3
  · exact zJall_3 j q T h1 h2 (by omega) h hz
  rcases Nat.lt_or_ge j 200 with h | g4
  · exact zJall_4 j q T h1 h2 (by omega) h hz
  rcases Nat.lt_or_ge j 240 with h | g5
  · exact zJall_5 j q T h1 h2 (by omega) h hz
  rcases Nat.lt_or_ge j 280 with h | g6
  · exact zJall_6 j q T h1 h2 (by omega) h hz
  rcases Nat.lt_or_ge j 281 with h | g7
  · exact zJall_7 j q T h1 h2 (by omega) h hz
  · omega
end
section
/-! The interpreter is right: what it runs, the machine runs -/
def zX (p : Program) (l : Launch) (e : Env) (R : Room) (s : State) (m : MethodId) (args : Array Value) (below : List Frame) (meth : Method) (c : Code) (cells slots : Nat) (Q : State → Prop) (E : zEn) (A : Nat → Prop) (N nL : Nat) (sb : Bool) (sc : zM → Prop) : Nat → zL → List zV → zM → Prop := fun pc ls st σ =>
  ∀ (H : Heap) (locs : List Loc) (lsA : Array Slot), zHp E σ H → sc σ → H.size = N → va_S A s.heap H locs → lv_has lsA nL (zls E 0 ls) → (∀ v, some v ∈ ls → zokv sb v) → (∀ v ∈ st, zokv sb v) → W p l e R s m args below meth c H locs cells slots Q (F0 m pc lsA (st.map (zvv E)))
/-- what holds of a method that is run -/
def zCx (p : Program) (R : Room) (s : State) (m : MethodId) (args : Array Value) (c : Code) (cells slots : Nat) (E : zEn) (A : Nat → Prop) (nL own : Nat) (b : ByteArray) (d : Nat) (sb : Bool) (sc : zM → Prop) : Prop :=
  p.tables.exec = Jvm.exec ∧ c.code = b ∧ c.maxLocals = nL ∧ s.vm.findClass (zcn own) = some m.cls ∧ (∀ w ∈ zGW, w.before args s = true) ∧ zK E s ∧ zTx E A s s.heap ∧ zIj E ∧ (∀ q, zA E q → A q) ∧ (d + 1 ≤ R.frames ∧ 60 * d + 60 ≤ R.locals ∧ cells ≤ R.cells ∧ slots ≤ R.slots) ∧
  (∀ σ, sc σ → sb = true → ∃ (L : Nat) (xs : Nat → Int32), L < 2 ^ 31 ∧ va_X (E.1 0 90) L xs s s.heap ∧ E.1 0 90 < s.heap.size ∧ ¬ A (E.1 0 90) ∧ σ.1 0 91 0 = nI L ∧ ∀ j, j < L → σ.1 0 90 j = xs j)
/-- a property of memories that no store touches -/
def zSC (sc : zM → Prop) : Prop := (∀ σ g k i v, (zkd k).1 ≤ 2 → sc σ → sc (zwI σ g k i v)) ∧ (∀ σ g k i v, (zkd k).1 ≤ 2 → sc σ → sc (zwL σ g k i v)) ∧ ∀ σ g k sp g2 k2 dp n, (zkd k2).1 ≤ 2 → sc σ → sc (zcop σ g k sp g2 k2 dp n)
theorem zcb_some {b : Bool} {x : zR} {r} (h : zcb b x none = some r) : b = true ∧ x = some r := by
  cases b
  · cases h
  · exact ⟨rfl, h⟩
theorem zcb_none {b : Bool} {x : zR} {r} (h : zcb b none x = some r) : b = false ∧ x = some r := by
  cases b
  · exact ⟨rfl, h⟩
  · cases h
theorem zin_spec {x : Int32} {n : Nat} (h : zin x n = true) : vp_in x n := by
  simp only [zin, Bool.and_eq_true, decide_eq_true_eq] at h
  have h2 := Nat.blt_eq.mp h.2
  intro q
  rcases q with q | q
  · exact absurd h.1 (Int32.not_le.mpr q)
  · omega
theorem z01_spec {x : Int32} (h : z01 x = true) : x = 0 ∨ x = 1 := by
  simpa [z01] using h
/-- the cell of a kind, at a place -/
theorem zHp.arr1 {E : zEn} {σ : zM} {H : Heap} (h : zHp E σ H) {g k n : Nat} (hk : zkd k = (1, n)) (hg : g < zNI k) : H[E.1 g k]? = some (arrV (E.2.1 1) n fun j => .int (σ.1 g k j)) := by
  have := h g k hg
  unfold zAt at this
  rw [hk] at this
  exact this
theorem zHp.arr2 {E : zEn} {σ : zM} {H : Heap} (h : zHp E σ H) {g k n : Nat} (hk : zkd k = (2, n)) (hg : g < zNI k) : H[E.1 g k]? = some (arrV (E.2.1 2) n fun j => .long (σ.2 g k j)) := by
  have := h g k hg
  unfold zAt at this
  rw [hk] at this
  exact this
theorem zHp.arr3 {E : zEn} {σ : zM} {H : Heap} (h : zHp E σ H) {g k n : Nat} (hk : zkd k = (3, n)) (hg : g < zNI k) : H[E.1 g k]? = some (arrV (E.2.1 3) n fun j => .ref (E.1 j (k + 1))) := by
  have := h g k hg
  unfold zAt at this
  rw [hk] at this
  exact this
theorem zHp.arr4 {E : zEn} {σ : zM} {H : Heap} (h : zHp E σ H) {g k n : Nat} (hk : zkd k = (4, n)) (hg : g < zNI k) : H[E.1 g k]? = some (arrV (E.2.1 4) n fun j => .ref (E.1 j (k + 1))) := by
  have := h g k hg
  unfold zAt at this
  rw [hk] at this
  exact this
theorem zHp.obj {E : zEn} {σ : zM} {H : Heap} (h : zHp E σ H) {g k ci : Nat} (hk : zkd k = (0, ci)) (hg : g < zNI k) : t_OB (E.1 g k) (E.2.2.1.1 ci) (zNF ci) (E.2.2.1.2 ci) H (zFv E σ g k) := by
  have := h g k hg
  unfold zAt at this
  rw [hk] at this
  exact this
theorem zAt.kept {E : zEn} {σ σ' : zM} {g k : Nat} {H H' : Heap} (h : zAt E σ g k H) (hq : H'[E.1 g k]? = H[E.1 g k]?) (h1 : ∀ j, σ'.1 g k j = σ.1 g k j) (h2 : ∀ j, σ'.2 g k j = σ.2 g k j) : zAt E σ' g k H' := by
  unfold zAt at h ⊢
  split at h
  · refine (h.kept hq).to fun j _ => ?_
    unfold zFv
    split <;> simp [h1]
  · rw [hq, h]
    simp only [h1]
  · rw [hq, h]
    simp only [h2]
  · rw [hq]; exact h
  · rw [hq]; exact h
  · trivial
/-- one cell is new, the others are what they were -/
theorem zHp.upd {E : zEn} {σ σ' : zM} {g k : Nat} {H H' : Heap} (h : zHp E σ H) (hI : zIj E) (hg : g < zNI k) (hc : zAt E σ' g k H') (ho : ∀ q, q ≠ E.1 g k → H'[q]? = H[q]?) (h1 : ∀ g' k' j, ¬ (g' = g ∧ k' = k) → σ'.1 g' k' j = σ.1 g' k' j) (h2 : ∀ g' k' j, ¬ (g' = g ∧ k' = k) → σ'.2 g' k' j = σ.2 g' k' j) : zHp E σ' H' := by
  intro g' k' hg'
  by_cases e : g' = g ∧ k' = k
  · obtain ⟨rfl, rfl⟩ := e
    exact hc
  · exact (h g' k' hg').kept (ho _ fun z => e (hI g' k' g k hg' hg z)) (fun j => h1 g' k' j e) (fun j => h2 g' k' j e)
theorem zwI_ne {σ : zM} {g k i : Nat} {v : Int32} {g' k' j : Nat} (h : ¬ (g' = g ∧ k' = k)) : (zwI σ g k i v).1 g' k' j = σ.1 g' k' j := if_neg fun z => h ⟨z.1, z.2.1⟩
theorem zwL_ne {σ : zM} {g k i : Nat} {v : Int64} {g' k' j : Nat} (h : ¬ (g' = g ∧ k' = k)) : (zwL σ g k i v).2 g' k' j = σ.2 g' k' j := if_neg fun z => h ⟨z.1, z.2.1⟩
theorem zok_obj {sb : Bool} {g k : Nat} {t n : Nat} (h : zokv sb (.inr (.inr (g, k)))) (hk : zkd k = (t, n)) (ht : t < 5) : g < zNI k := by
  unfold zokv at h
  simp only [hk] at h
  have : t = 0 ∨ t = 1 ∨ t = 2 ∨ t = 3 ∨ t = 4 := by omega
  rcases this with rfl | rfl | rfl | rfl | rfl <;> exact h
theorem zok_ref {sb : Bool} {g k : Nat} {t n : Nat} (hk : zkd k = (t, n)) (ht : t < 5) (h : g < zNI k) : zokv sb (.inr (.inr (g, k))) := by
  unfold zokv
  simp only [hk]
  have : t = 0 ∨ t = 1 ∨ t = 2 ∨ t = 3 ∨ t = 4 := by omega
  rcases this with rfl | rfl | rfl | rfl | rfl <;> exact h
theorem zkd_ne99 {k t n : Nat} (hk : zkd k = (t, n)) (ht : t < 9) : Nat.beq k 99 = false := by
  cases e : Nat.beq k 99 with
  | false => rfl
  | true =>
    have := Nat.eq_of_beq_eq_true e
    subst this
    have h9 : zkd 99 = (9, 0) := by decide +kernel
    rw [h9] at hk
    cases hk
    omega
theorem zvv_ref {E : zEn} {g k : Nat} (h : Nat.beq k 99 = false) : zvv E (.inr (.inr (g, k))) = .ref (E.1 g k) := by
  show (bif Nat.beq k 99 then E.2.2.2 else Value.ref (E.1 g k)) = _
  rw [h]; rfl
theorem zfa_mem : ∀ {l : List (Nat × Nat × Nat)} {i : Nat} {e}, zfa l i = some e → (i, e) ∈ l
  | [], _, _, h => by cases h
  | (p, e0) :: r, i, e, h => by
    have h : (bif Nat.beq p i then some e0 else zfa r i) = some e := h
    cases q : Nat.beq p i with
    | true =>
      rw [q] at h
      cases h
      rw [Nat.eq_of_beq_eq_true q]
      exact List.mem_cons_self
    | false =>
      rw [q] at h
      exact List.mem_cons_of_mem _ (zfa_mem h)
theorem zma_mem : ∀ {l : List (Nat × Nat × Nat × Nat)} {i : Nat} {e}, zma l i = some e → (i, e) ∈ l
  | [], _, _, h => by cases h
  | (p, e0) :: r, i, e, h => by
    have h : (bif Nat.beq p i then some e0 else zma r i) = some e := h
    cases q : Nat.beq p i with
    | true =>
      rw [q] at h
      cases h
      rw [Nat.eq_of_beq_eq_true q]
      exact List.mem_cons_self
    | false =>
      rw [q] at h
      exact List.mem_cons_of_mem _ (zma_mem h)
theorem zas_mem : ∀ {l : List (Nat × zE)} {i : Nat} {e}, zas l i = some e → (i, e) ∈ l
  | [], _, _, h => by cases h
  | (p, e0) :: r, i, e, h => by
    have h : (bif Nat.beq p i then some e0 else zas r i) = some e := h
    cases q : Nat.beq p i with
    | true =>
      rw [q] at h
      cases h
      rw [Nat.eq_of_beq_eq_true q]
      exact List.mem_cons_self
    | false =>
      rw [q] at h
      exact List.mem_cons_of_mem _ (zas_mem h)
theorem zmk_sub : ∀ {m : List Bool} {l : zL} {v}, some v ∈ zmk m l → some v ∈ l
  | [], _, _, h => h
  | _ :: _, [], _, h => by cases h
  | b :: m, w :: l, v, h => by
    rcases List.mem_cons.mp h with h | h
    · cases b
      · cases h
      · rw [h]; exact List.mem_cons_self
    · exact List.mem_cons_of_mem _ (zmk_sub h)
theorem zls_mk {E : zEn} : ∀ {m : List Bool} {l : zL} {b : Nat} {q}, q ∈ zls E b (zmk m l) → q ∈ zls E b l
  | [], _, _, _, h => h
  | _ :: _, [], _, _, h => by cases h
  | t :: m, w :: l, b, q, h => by
    cases t
    · cases w with
      | none => exact zls_mk (m := m) (l := l) h
      | some w => exact List.mem_cons_of_mem _ (zls_mk (m := m) (l := l) h)
    · cases w with
      | none => exact zls_mk (m := m) (l := l) h
      | some w =>
        rcases List.mem_cons.mp h with h | h
        · rw [h]; exact List.mem_cons_self
        · exact List.mem_cons_of_mem _ (zls_mk (m := m) (l := l) h)
theorem zls_cut {E : zEn} : ∀ {l : zL} {b n : Nat} {q}, q ∈ zls E b (zcut l n) → q ∈ zls E b l
  | [], _, n, _, h => by cases n <;> cases h
  | none :: l, b, 0, q, h => h
  | some w :: l, b, 0, q, h => List.mem_cons_of_mem _ h
  | none :: l, b, n + 1, q, h => zls_cut (l := l) (b := b + 1) h
  | some w :: l, b, n + 1, q, h => by
    rcases List.mem_cons.mp h with h | h
    · rw [h]; exact List.mem_cons_self
    · exact List.mem_cons_of_mem _ (zls_cut (l := l) h)
theorem zput_mem : ∀ {l : zL} {n : Nat} {v w}, some w ∈ zput l n v → some w ∈ l ∨ w = v
  | [], n, _, _, h => by cases n with
    | zero => cases h
    | succ n => cases n <;> cases h
  | a :: l, 0, v, w, h => by
    rcases List.mem_cons.mp h with h | h
    · cases h; exact Or.inr rfl
    · exact Or.inl (List.mem_cons_of_mem _ h)
  | a :: l, 1, v, w, h => by
    rcases List.mem_cons.mp h with h | h
    · left
      split at h
      · cases h
      · rw [h]; exact List.mem_cons_self
    · rcases zput_mem h with h | h
      · exact Or.inl (List.mem_cons_of_mem _ h)
      · exact Or.inr h
  | a :: l, n + 2, v, w, h => by
    rcases List.mem_cons.mp h with h | h
    · rw [h]; exact Or.inl List.mem_cons_self
    · rcases zput_mem h with h | h
      · exact Or.inl (List.mem_cons_of_mem _ h)
      · exact Or.inr h
theorem zcut_mem : ∀ {l : zL} {n : Nat} {w}, some w ∈ zcut l n → some w ∈ l
  | [], n, _, h => by cases n <;> cases h
  | a :: l, 0, w, h => by
    rcases List.mem_cons.mp h with h | h
    · cases h
    · exact List.mem_cons_of_mem _ h
  | a :: l, n + 1, w, h => by
    rcases List.mem_cons.mp h with h | h
    · rw [h]; exact List.mem_cons_self
    · exact List.mem_cons_of_mem _ (zcut_mem h)
theorem zget_mem : ∀ {l : zL} {n : Nat} {v}, zget l n = some v → some v ∈ l
  | [], _, _, h => by cases h
  | a :: l, 0, v, h => by
    have h : a = some v := h
    rw [h]; exact List.mem_cons_self
  | a :: l, n + 1, v, h => List.mem_cons_of_mem _ (zget_mem (l := l) h)
theorem lv_less {ls : Array Slot} {nL : Nat} {l l' : List (Nat × Value)} (h : lv_has ls nL l) (hs : ∀ q, q ∈ l' → q ∈ l) : lv_has ls nL l' := ⟨h.1, h.2.1, fun q hq => h.2.2 q (hs q hq)⟩
theorem zlv_get {E : zEn} {lsA : Array Slot} {nL : Nat} {ls : zL} (h : lv_has lsA nL (zls E 0 ls)) {i : Nat} {v : zV} (hv : zget ls i = some v) : lsA[i]? = some (.val (zvv E v)) := by
  have := h.2.2 _ (zls_get (E := E) (b := 0) hv)
  simpa using this
theorem zlv_put {E : zEn} (hE : E.2.2.2.category = 1) {lsA : Array Slot} {nL : Nat} {ls : zL} {i : Nat} {v : zV} {w : Value} (hw : w = zvv E v) (h : lv_has lsA nL ((i, w) :: (zls E 0 ls).filter (fun q => !(q.1 == i) && !(q.1 + 1 == i && q.2.category == 2)))) : lv_has lsA nL (zls E 0 (zput ls i v)) := by
  refine lv_less h fun q hq => ?_
  rcases zls_put hE hq with h | ⟨h1, h2, h3⟩
  · rw [h, Nat.zero_add, hw]; exact List.mem_cons_self
  · refine List.mem_cons_of_mem _ (List.mem_filter.mpr ⟨h1, ?_⟩)
    rw [Nat.zero_add] at h2 h3
    simp only [Bool.and_eq_true, Bool.not_eq_true', beq_eq_false_iff_ne, ne_eq, Bool.and_eq_false_iff]
    refine ⟨h2, ?_⟩
    by_cases e : q.1 + 1 = i
    · exact Or.inr fun z => h3 ⟨e, z⟩
    · exact Or.inl e
theorem zls_cut_ne {E : zEn} : ∀ {l : zL} {b n : Nat} {q}, q ∈ zls E b (zcut l n) → ¬ q.1 = b + n
  | [], _, n, _, h => by cases n <;> cases h
  | none :: l, b, 0, q, h => fun z => by have := zls_ge (ls := l) h; omega
  | some w :: l, b, 0, q, h => fun z => by have := zls_ge (ls := l) h; omega
  | none :: l, b, n + 1, q, h => fun z => zls_cut_ne (l := l) (b := b + 1) h (by omega)
  | some w :: l, b, n + 1, q, h => by
    rcases List.mem_cons.mp h with h | h
    · rw [h]; exact fun z => by simp only [] at z; omega
    · exact fun z => zls_cut_ne (l := l) h (by omega)
theorem zSD_ok {own i j : Nat} (h : zsd own i = some j) : ∃ q ∈ zSI, zcn own = RX10 ∧ i = q.1 ∧ q.2.2 = j ∧ j < 18 := by
  unfold zsd at h
  cases hf : zfa (zSD.getD own []) i with
  | none => rw [hf] at h; cases h
  | some v =>
    rw [hf] at h
    obtain ⟨j', x⟩ := v
    cases h
    have hm := zfa_mem hf
    have hall : ∀ o, o < 19 → ∀ q ∈ zSD.getD o [], ∃ w ∈ zSI, zcn o = RX10 ∧ q.1 = w.1 ∧ w.2.2 = q.2.1 ∧ q.2.1 < 18 := by decide +kernel
    rcases Nat.lt_or_ge own 19 with ho | ho
    · exact hall own ho _ hm
    · obtain ⟨k, rfl⟩ : ∃ k, own = k + 19 := ⟨own - 19, by omega⟩
      exact absurd hm List.not_mem_nil
end
section
section ZST
variable {p : Program} {l : Launch} {e : Env} {R : Room} {s : State} {m : MethodId} {args : Array Value} {below : List Frame} {meth : Method} {c : Code} {cells slots : Nat} {Q : State → Prop} {E : zEn} {A : Nat → Prop} {N nL : Nat} {sb : Bool} {sc : zM → Prop} {own d rk : Nat} {b : ByteArray} {C : zC} {K : zKt} {r : Int32 × Int64 × zM}
theorem zo1_s {st : List zV} {f : Int32 → List zV → zR} (h : zo1 st f = some r) : ∃ x t, st = .inl x :: t ∧ f x t = some r := by
  unfold zo1 at h; split at h
  · exact ⟨_, _, rfl, h⟩
  · cases h
theorem zo2_s {st : List zV} {f : Int32 → Int32 → List zV → zR} (h : zo2 st f = some r) : ∃ y x t, st = .inl y :: .inl x :: t ∧ f y x t = some r := by
  unfold zo2 at h; split at h
  · exact ⟨_, _, _, rfl, h⟩
  · cases h
theorem zl1_s {st : List zV} {f : Int64 → List zV → zR} (h : zl1 st f = some r) : ∃ x t, st = .inr (.inl x) :: t ∧ f x t = some r := by
  unfold zl1 at h; split at h
  · exact ⟨_, _, rfl, h⟩
  · cases h
theorem zl2_s {st : List zV} {f : Int64 → Int64 → List zV → zR} (h : zl2 st f = some r) : ∃ y x t, st = .inr (.inl y) :: .inr (.inl x) :: t ∧ f y x t = some r := by
  unfold zl2 at h; split at h
  · exact ⟨_, _, _, rfl, h⟩
  · cases h
theorem zli_s {st : List zV} {f : Int32 → Int64 → List zV → zR} (h : zli st f = some r) : ∃ y x t, st = .inl y :: .inr (.inl x) :: t ∧ f y x t = some r := by
  unfold zli at h; split at h
  · exact ⟨_, _, _, rfl, h⟩
  · cases h
theorem zr1_s {st : List zV} {f : Nat → Nat → List zV → zR} (h : zr1 st f = some r) : ∃ g k t, st = .inr (.inr (g, k)) :: t ∧ f g k t = some r := by
  unfold zr1 at h; split at h
  · exact ⟨_, _, _, rfl, h⟩
  · cases h
theorem zir_s {st : List zV} {f : Int32 → Nat → Nat → List zV → zR} (h : zir st f = some r) : ∃ i g k t, st = .inl i :: .inr (.inr (g, k)) :: t ∧ f i g k t = some r := by
  unfold zir at h; split at h
  · exact ⟨_, _, _, _, rfl, h⟩
  · cases h
theorem ziir_s {st : List zV} {f : Int32 → Int32 → Nat → Nat → List zV → zR} (h : ziir st f = some r) : ∃ v i g k t, st = .inl v :: .inl i :: .inr (.inr (g, k)) :: t ∧ f v i g k t = some r := by
  unfold ziir at h; split at h
  · exact ⟨_, _, _, _, _, rfl, h⟩
  · cases h
theorem zlir_s {st : List zV} {f : Int64 → Int32 → Nat → Nat → List zV → zR} (h : zlir st f = some r) : ∃ v i g k t, st = .inr (.inl v) :: .inl i :: .inr (.inr (g, k)) :: t ∧ f v i g k t = some r := by
  unfold zlir at h; split at h
  · exact ⟨_, _, _, _, _, rfl, h⟩
  · cases h
theorem zvI_s {v : Option zV} {f : Int32 → zR} (h : zvI v f = some r) : ∃ x, v = some (.inl x) ∧ f x = some r := by
  unfold zvI at h; split at h
  · exact ⟨_, rfl, h⟩
  · cases h
theorem zvL_s {v : Option zV} {f : Int64 → zR} (h : zvL v f = some r) : ∃ x, v = some (.inr (.inl x)) ∧ f x = some r := by
  unfold zvL at h; split at h
  · exact ⟨_, rfl, h⟩
  · cases h
theorem zvR_s {v : Option zV} {f : Nat → Nat → zR} (h : zvR v f = some r) : ∃ g k, v = some (.inr (.inr (g, k))) ∧ f g k = some r := by
  unfold zvR at h; split at h
  · exact ⟨_, _, rfl, h⟩
  · cases h
theorem zck_s {pc : Nat} {q : zE} (h : zck b own nL (pc, q) = true) : decode b pc = .ok (q.1, q.2.1 - pc) ∧ zck1 own nL pc q = true := by
  simp only [zck, Bool.and_eq_true, decide_eq_true_eq] at h
  exact h
theorem znx {pc nx n : Nat} {i : ClassFile.Instr} (hd : decode b pc = .ok (i, nx - pc)) (h : Nat.beq nx (pc + n) = true) : nx = pc + n ∧ decode b pc = .ok (i, n) := by
  have := Nat.eq_of_beq_eq_true h
  subst this
  rw [Nat.add_sub_cancel_left] at hd
  exact ⟨rfl, hd⟩
theorem zoc {v : zV} {t : List zV} (hv : zokv sb v) (ht : ∀ w ∈ t, zokv sb w) : ∀ w ∈ v :: t, zokv sb w := fun w hw => (List.mem_cons.mp hw).elim (fun q => q ▸ hv) (ht w)
theorem zot {v : zV} {t : List zV} (ht : ∀ w ∈ v :: t, zokv sb w) : ∀ w ∈ t, zokv sb w := fun w hw => ht w (List.mem_cons_of_mem _ hw)
theorem zoi (x : Int32) : zokv sb (.inl x) := trivial
theorem zol (x : Int64) : zokv sb (.inr (.inl x)) := trivial
/-- what the rest of the run needs: the next places -/
abbrev zIH (p : Program) (l : Launch) (e : Env) (R : Room) (s : State) (m : MethodId) (args : Array Value) (below : List Frame) (meth : Method) (c : Code) (cells slots : Nat) (Q : State → Prop) (E : zEn) (A : Nat → Prop) (N nL : Nat) (sb : Bool) (sc : zM → Prop) (K : zKt) (r : Int32 × Int64 × zM) : Prop := ∀ pc ls st σ, K pc ls st σ = some r → zX p l e R s m args below meth c cells slots Q E A N nL sb sc pc ls st σ

theorem zs_iadd {pc nx tg : Nat} {cc : Int32} {dd : Int64} {sw mk} {ls : zL} {st : List zV} {σ : zM}  (hx : zCx p R s m args c cells slots E A nL own b d sb sc) (ih : zIH p l e R s m args below meth c cells slots Q E A N nL sb sc K r) (hc : zck b own nL (pc, (.iadd, nx, tg, cc, dd, sw, mk)) = true) (h : zop C own rk K ls st σ (.iadd, nx, tg, cc, dd, sw, mk) = some r) : zX p l e R s m args below meth c cells slots Q E A N nL sb sc pc ls st σ := by
  obtain ⟨hd, h1⟩ := zck_s hc
  obtain ⟨rfl, hd⟩ := znx (n := 1) hd (by simpa [zck1] using h1)
  obtain ⟨y, x, t, rfl, h⟩ := zo2_s h
  intro H locs lsA hH hsc hN hS hL hl hs
  exact lv_iadd hx.1 hx.2.1 hd (ih _ _ _ _ h H locs lsA hH hsc hN hS hL hl (zoc (zoi _) (zot (zot hs))))
theorem zs_isub {pc nx tg : Nat} {cc : Int32} {dd : Int64} {sw mk} {ls : zL} {st : List zV} {σ : zM}  (hx : zCx p R s m args c cells slots E A nL own b d sb sc) (ih : zIH p l e R s m args below meth c cells slots Q E A N nL sb sc K r) (hc : zck b own nL (pc, (.isub, nx, tg, cc, dd, sw, mk)) = true) (h : zop C own rk K ls st σ (.isub, nx, tg, cc, dd, sw, mk) = some r) : zX p l e R s m args below meth c cells slots Q E A N nL sb sc pc ls st σ := by
  obtain ⟨hd, h1⟩ := zck_s hc
  obtain ⟨rfl, hd⟩ := znx (n := 1) hd (by simpa [zck1] using h1)
  obtain ⟨y, x, t, rfl, h⟩ := zo2_s h
  intro H locs lsA hH hsc hN hS hL hl hs
  exact lv_isub hx.1 hx.2.1 hd (ih _ _ _ _ h H locs lsA hH hsc hN hS hL hl (zoc (zoi _) (zot (zot hs))))
theorem zs_imul {pc nx tg : Nat} {cc : Int32} {dd : Int64} {sw mk} {ls : zL} {st : List zV} {σ : zM}  (hx : zCx p R s m args c cells slots E A nL own b d sb sc) (ih : zIH p l e R s m args below meth c cells slots Q E A N nL sb sc K r) (hc : zck b own nL (pc, (.imul, nx, tg, cc, dd, sw, mk)) = true) (h : zop C own rk K ls st σ (.imul, nx, tg, cc, dd, sw, mk) = some r) : zX p l e R s m args below meth c cells slots Q E A N nL sb sc pc ls st σ := by
  obtain ⟨hd, h1⟩ := zck_s hc
  obtain ⟨rfl, hd⟩ := znx (n := 1) hd (by simpa [zck1] using h1)
  obtain ⟨y, x, t, rfl, h⟩ := zo2_s h
  intro H locs lsA hH hsc hN hS hL hl hs
  exact lv_imul hx.1 hx.2.1 hd (ih _ _ _ _ h H locs lsA hH hsc hN hS hL hl (zoc (zoi _) (zot (zot hs))))
theorem zs_iand {pc nx tg : Nat} {cc : Int32} {dd : Int64} {sw mk} {ls : zL} {st : List zV} {σ : zM}  (hx : zCx p R s m args c cells slots E A nL own b d sb sc) (ih : zIH p l e R s m args below meth c cells slots Q E A N nL sb sc K r) (hc : zck b own nL (pc, (.iand, nx, tg, cc, dd, sw, mk)) = true) (h : zop C own rk K ls st σ (.iand, nx, tg, cc, dd, sw, mk) = some r) : zX p l e R s m args below meth c cells slots Q E A N nL sb sc pc ls st σ := by
  obtain ⟨hd, h1⟩ := zck_s hc
  obtain ⟨rfl, hd⟩ := znx (n := 1) hd (by simpa [zck1] using h1)
  obtain ⟨y, x, t, rfl, h⟩ := zo2_s h
  intro H locs lsA hH hsc hN hS hL hl hs
  exact lv_iand hx.1 hx.2.1 hd (ih _ _ _ _ h H locs lsA hH hsc hN hS hL hl (zoc (zoi _) (zot (zot hs))))
theorem zs_ior {pc nx tg : Nat} {cc : Int32} {dd : Int64} {sw mk} {ls : zL} {st : List zV} {σ : zM}  (hx : zCx p R s m args c cells slots E A nL own b d sb sc) (ih : zIH p l e R s m args below meth c cells slots Q E A N nL sb sc K r) (hc : zck b own nL (pc, (.ior, nx, tg, cc, dd, sw, mk)) = true) (h : zop C own rk K ls st σ (.ior, nx, tg, cc, dd, sw, mk) = some r) : zX p l e R s m args below meth c cells slots Q E A N nL sb sc pc ls st σ := by
  obtain ⟨hd, h1⟩ := zck_s hc
  obtain ⟨rfl, hd⟩ := znx (n := 1) hd (by simpa [zck1] using h1)
  obtain ⟨y, x, t, rfl, h⟩ := zo2_s h
  intro H locs lsA hH hsc hN hS hL hl hs
  exact lv_ior hx.1 hx.2.1 hd (ih _ _ _ _ h H locs lsA hH hsc hN hS hL hl (zoc (zoi _) (zot (zot hs))))
theorem zs_ixor {pc nx tg : Nat} {cc : Int32} {dd : Int64} {sw mk} {ls : zL} {st : List zV} {σ : zM}  (hx : zCx p R s m args c cells slots E A nL own b d sb sc) (ih : zIH p l e R s m args below meth c cells slots Q E A N nL sb sc K r) (hc : zck b own nL (pc, (.ixor, nx, tg, cc, dd, sw, mk)) = true) (h : zop C own rk K ls st σ (.ixor, nx, tg, cc, dd, sw, mk) = some r) : zX p l e R s m args below meth c cells slots Q E A N nL sb sc pc ls st σ := by
  obtain ⟨hd, h1⟩ := zck_s hc
  obtain ⟨rfl, hd⟩ := znx (n := 1) hd (by simpa [zck1] using h1)
  obtain ⟨y, x, t, rfl, h⟩ := zo2_s h
  intro H locs lsA hH hsc hN hS hL hl hs
  exact lv_ixor hx.1 hx.2.1 hd (ih _ _ _ _ h H locs lsA hH hsc hN hS hL hl (zoc (zoi _) (zot (zot hs))))
theorem zs_ishl {pc nx tg : Nat} {cc : Int32} {dd : Int64} {sw mk} {ls : zL} {st : List zV} {σ : zM}  (hx : zCx p R s m args c cells slots E A nL own b d sb sc) (ih : zIH p l e R s m args below meth c cells slots Q E A N nL sb sc K r) (hc : zck b own nL (pc, (.ishl, nx, tg, cc, dd, sw, mk)) = true) (h : zop C own rk K ls st σ (.ishl, nx, tg, cc, dd, sw, mk) = some r) : zX p l e R s m args below meth c cells slots Q E A N nL sb sc pc ls st σ := by
  obtain ⟨hd, h1⟩ := zck_s hc
  obtain ⟨rfl, hd⟩ := znx (n := 1) hd (by simpa [zck1] using h1)
  obtain ⟨y, x, t, rfl, h⟩ := zo2_s h
  intro H locs lsA hH hsc hN hS hL hl hs
  exact lv_ishl hx.1 hx.2.1 hd (ih _ _ _ _ h H locs lsA hH hsc hN hS hL hl (zoc (zoi _) (zot (zot hs))))
theorem zs_ishr {pc nx tg : Nat} {cc : Int32} {dd : Int64} {sw mk} {ls : zL} {st : List zV} {σ : zM}  (hx : zCx p R s m args c cells slots E A nL own b d sb sc) (ih : zIH p l e R s m args below meth c cells slots Q E A N nL sb sc K r) (hc : zck b own nL (pc, (.ishr, nx, tg, cc, dd, sw, mk)) = true) (h : zop C own rk K ls st σ (.ishr, nx, tg, cc, dd, sw, mk) = some r) : zX p l e R s m args below meth c cells slots Q E A N nL sb sc pc ls st σ := by
  obtain ⟨hd, h1⟩ := zck_s hc
  obtain ⟨rfl, hd⟩ := znx (n := 1) hd (by simpa [zck1] using h1)
  obtain ⟨y, x, t, rfl, h⟩ := zo2_s h
  intro H locs lsA hH hsc hN hS hL hl hs
  exact lv_ishr hx.1 hx.2.1 hd (ih _ _ _ _ h H locs lsA hH hsc hN hS hL hl (zoc (zoi _) (zot (zot hs))))
theorem zs_iushr {pc nx tg : Nat} {cc : Int32} {dd : Int64} {sw mk} {ls : zL} {st : List zV} {σ : zM}  (hx : zCx p R s m args c cells slots E A nL own b d sb sc) (ih : zIH p l e R s m args below meth c cells slots Q E A N nL sb sc K r) (hc : zck b own nL (pc, (.iushr, nx, tg, cc, dd, sw, mk)) = true) (h : zop C own rk K ls st σ (.iushr, nx, tg, cc, dd, sw, mk) = some r) : zX p l e R s m args below meth c cells slots Q E A N nL sb sc pc ls st σ := by
  obtain ⟨hd, h1⟩ := zck_s hc
  obtain ⟨rfl, hd⟩ := znx (n := 1) hd (by simpa [zck1] using h1)
  obtain ⟨y, x, t, rfl, h⟩ := zo2_s h
  intro H locs lsA hH hsc hN hS hL hl hs
  exact lv_iushr hx.1 hx.2.1 hd rfl (ih _ _ _ _ h H locs lsA hH hsc hN hS hL hl (zoc (zoi _) (zot (zot hs))))
theorem zs_ineg {pc nx tg : Nat} {cc : Int32} {dd : Int64} {sw mk} {ls : zL} {st : List zV} {σ : zM}  (hx : zCx p R s m args c cells slots E A nL own b d sb sc) (ih : zIH p l e R s m args below meth c cells slots Q E A N nL sb sc K r) (hc : zck b own nL (pc, (.ineg, nx, tg, cc, dd, sw, mk)) = true) (h : zop C own rk K ls st σ (.ineg, nx, tg, cc, dd, sw, mk) = some r) : zX p l e R s m args below meth c cells slots Q E A N nL sb sc pc ls st σ := by
  obtain ⟨hd, h1⟩ := zck_s hc
  obtain ⟨rfl, hd⟩ := znx (n := 1) hd (by simpa [zck1] using h1)
  obtain ⟨x, t, rfl, h⟩ := zo1_s h
  intro H locs lsA hH hsc hN hS hL hl hs
  exact lv_ineg hx.1 hx.2.1 hd (ih _ _ _ _ h H locs lsA hH hsc hN hS hL hl (zoc (zoi _) (zot hs)))
theorem zs_ladd {pc nx tg : Nat} {cc : Int32} {dd : Int64} {sw mk} {ls : zL} {st : List zV} {σ : zM}  (hx : zCx p R s m args c cells slots E A nL own b d sb sc) (ih : zIH p l e R s m args below meth c cells slots Q E A N nL sb sc K r) (hc : zck b own nL (pc, (.ladd, nx, tg, cc, dd, sw, mk)) = true) (h : zop C own rk K ls st σ (.ladd, nx, tg, cc, dd, sw, mk) = some r) : zX p l e R s m args below meth c cells slots Q E A N nL sb sc pc ls st σ := by
  obtain ⟨hd, h1⟩ := zck_s hc
  obtain ⟨rfl, hd⟩ := znx (n := 1) hd (by simpa [zck1] using h1)
  obtain ⟨y, x, t, rfl, h⟩ := zl2_s h
  intro H locs lsA hH hsc hN hS hL hl hs
  exact lv_ladd hx.1 hx.2.1 hd (ih _ _ _ _ h H locs lsA hH hsc hN hS hL hl (zoc (zol _) (zot (zot hs))))
theorem zs_lmul {pc nx tg : Nat} {cc : Int32} {dd : Int64} {sw mk} {ls : zL} {st : List zV} {σ : zM}  (hx : zCx p R s m args c cells slots E A nL own b d sb sc) (ih : zIH p l e R s m args below meth c cells slots Q E A N nL sb sc K r) (hc : zck b own nL (pc, (.lmul, nx, tg, cc, dd, sw, mk)) = true) (h : zop C own rk K ls st σ (.lmul, nx, tg, cc, dd, sw, mk) = some r) : zX p l e R s m args below meth c cells slots Q E A N nL sb sc pc ls st σ := by
  obtain ⟨hd, h1⟩ := zck_s hc
  obtain ⟨rfl, hd⟩ := znx (n := 1) hd (by simpa [zck1] using h1)
  obtain ⟨y, x, t, rfl, h⟩ := zl2_s h
  intro H locs lsA hH hsc hN hS hL hl hs
  exact lv_lmul hx.1 hx.2.1 hd (ih _ _ _ _ h H locs lsA hH hsc hN hS hL hl (zoc (zol _) (zot (zot hs))))
theorem zs_land {pc nx tg : Nat} {cc : Int32} {dd : Int64} {sw mk} {ls : zL} {st : List zV} {σ : zM}  (hx : zCx p R s m args c cells slots E A nL own b d sb sc) (ih : zIH p l e R s m args below meth c cells slots Q E A N nL sb sc K r) (hc : zck b own nL (pc, (.land, nx, tg, cc, dd, sw, mk)) = true) (h : zop C own rk K ls st σ (.land, nx, tg, cc, dd, sw, mk) = some r) : zX p l e R s m args below meth c cells slots Q E A N nL sb sc pc ls st σ := by
  obtain ⟨hd, h1⟩ := zck_s hc
  obtain ⟨rfl, hd⟩ := znx (n := 1) hd (by simpa [zck1] using h1)
  obtain ⟨y, x, t, rfl, h⟩ := zl2_s h
  intro H locs lsA hH hsc hN hS hL hl hs
  exact lv_land hx.1 hx.2.1 hd (ih _ _ _ _ h H locs lsA hH hsc hN hS hL hl (zoc (zol _) (zot (zot hs))))
theorem zs_lor {pc nx tg : Nat} {cc : Int32} {dd : Int64} {sw mk} {ls : zL} {st : List zV} {σ : zM}  (hx : zCx p R s m args c cells slots E A nL own b d sb sc) (ih : zIH p l e R s m args below meth c cells slots Q E A N nL sb sc K r) (hc : zck b own nL (pc, (.lor, nx, tg, cc, dd, sw, mk)) = true) (h : zop C own rk K ls st σ (.lor, nx, tg, cc, dd, sw, mk) = some r) : zX p l e R s m args below meth c cells slots Q E A N nL sb sc pc ls st σ := by
  obtain ⟨hd, h1⟩ := zck_s hc
  obtain ⟨rfl, hd⟩ := znx (n := 1) hd (by simpa [zck1] using h1)
  obtain ⟨y, x, t, rfl, h⟩ := zl2_s h
  intro H locs lsA hH hsc hN hS hL hl hs
  exact lv_lor hx.1 hx.2.1 hd (ih _ _ _ _ h H locs lsA hH hsc hN hS hL hl (zoc (zol _) (zot (zot hs))))
theorem zs_lshl {pc nx tg : Nat} {cc : Int32} {dd : Int64} {sw mk} {ls : zL} {st : List zV} {σ : zM}  (hx : zCx p R s m args c cells slots E A nL own b d sb sc) (ih : zIH p l e R s m args below meth c cells slots Q E A N nL sb sc K r) (hc : zck b own nL (pc, (.lshl, nx, tg, cc, dd, sw, mk)) = true) (h : zop C own rk K ls st σ (.lshl, nx, tg, cc, dd, sw, mk) = some r) : zX p l e R s m args below meth c cells slots Q E A N nL sb sc pc ls st σ := by
  obtain ⟨hd, h1⟩ := zck_s hc
  obtain ⟨rfl, hd⟩ := znx (n := 1) hd (by simpa [zck1] using h1)
  obtain ⟨y, x, t, rfl, h⟩ := zli_s h
  intro H locs lsA hH hsc hN hS hL hl hs
  exact lv_lshl hx.1 hx.2.1 hd rfl (ih _ _ _ _ h H locs lsA hH hsc hN hS hL hl (zoc (zol _) (zot (zot hs))))
theorem zs_lshr {pc nx tg : Nat} {cc : Int32} {dd : Int64} {sw mk} {ls : zL} {st : List zV} {σ : zM}  (hx : zCx p R s m args c cells slots E A nL own b d sb sc) (ih : zIH p l e R s m args below meth c cells slots Q E A N nL sb sc K r) (hc : zck b own nL (pc, (.lshr, nx, tg, cc, dd, sw, mk)) = true) (h : zop C own rk K ls st σ (.lshr, nx, tg, cc, dd, sw, mk) = some r) : zX p l e R s m args below meth c cells slots Q E A N nL sb sc pc ls st σ := by
  obtain ⟨hd, h1⟩ := zck_s hc
  obtain ⟨rfl, hd⟩ := znx (n := 1) hd (by simpa [zck1] using h1)
  obtain ⟨y, x, t, rfl, h⟩ := zli_s h
  intro H locs lsA hH hsc hN hS hL hl hs
  exact lv_lshr hx.1 hx.2.1 hd rfl (ih _ _ _ _ h H locs lsA hH hsc hN hS hL hl (zoc (zol _) (zot (zot hs))))
theorem zs_lushr {pc nx tg : Nat} {cc : Int32} {dd : Int64} {sw mk} {ls : zL} {st : List zV} {σ : zM}  (hx : zCx p R s m args c cells slots E A nL own b d sb sc) (ih : zIH p l e R s m args below meth c cells slots Q E A N nL sb sc K r) (hc : zck b own nL (pc, (.lushr, nx, tg, cc, dd, sw, mk)) = true) (h : zop C own rk K ls st σ (.lushr, nx, tg, cc, dd, sw, mk) = some r) : zX p l e R s m args below meth c cells slots Q E A N nL sb sc pc ls st σ := by
  obtain ⟨hd, h1⟩ := zck_s hc
  obtain ⟨rfl, hd⟩ := znx (n := 1) hd (by simpa [zck1] using h1)
  obtain ⟨y, x, t, rfl, h⟩ := zli_s h
  intro H locs lsA hH hsc hN hS hL hl hs
  exact lv_lushr hx.1 hx.2.1 hd rfl (ih _ _ _ _ h H locs lsA hH hsc hN hS hL hl (zoc (zol _) (zot (zot hs))))
theorem zs_lcmp {pc nx tg : Nat} {cc : Int32} {dd : Int64} {sw mk} {ls : zL} {st : List zV} {σ : zM}  (hx : zCx p R s m args c cells slots E A nL own b d sb sc) (ih : zIH p l e R s m args below meth c cells slots Q E A N nL sb sc K r) (hc : zck b own nL (pc, (.lcmp, nx, tg, cc, dd, sw, mk)) = true) (h : zop C own rk K ls st σ (.lcmp, nx, tg, cc, dd, sw, mk) = some r) : zX p l e R s m args below meth c cells slots Q E A N nL sb sc pc ls st σ := by
  obtain ⟨hd, h1⟩ := zck_s hc
  obtain ⟨rfl, hd⟩ := znx (n := 1) hd (by simpa [zck1] using h1)
  obtain ⟨y, x, t, rfl, h⟩ := zl2_s h
  intro H locs lsA hH hsc hN hS hL hl hs
  exact W.lcmp hx.1 hx.2.1 hd (ih _ _ _ _ h H locs lsA hH hsc hN hS hL hl (zoc (zoi _) (zot (zot hs))))
theorem zs_i2l {pc nx tg : Nat} {cc : Int32} {dd : Int64} {sw mk} {ls : zL} {st : List zV} {σ : zM}  (hx : zCx p R s m args c cells slots E A nL own b d sb sc) (ih : zIH p l e R s m args below meth c cells slots Q E A N nL sb sc K r) (hc : zck b own nL (pc, (.i2l, nx, tg, cc, dd, sw, mk)) = true) (h : zop C own rk K ls st σ (.i2l, nx, tg, cc, dd, sw, mk) = some r) : zX p l e R s m args below meth c cells slots Q E A N nL sb sc pc ls st σ := by
  obtain ⟨hd, h1⟩ := zck_s hc
  obtain ⟨rfl, hd⟩ := znx (n := 1) hd (by simpa [zck1] using h1)
  obtain ⟨x, t, rfl, h⟩ := zo1_s h
  intro H locs lsA hH hsc hN hS hL hl hs
  exact lv_i2l hx.1 hx.2.1 hd rfl (ih _ _ _ _ h H locs lsA hH hsc hN hS hL hl (zoc (zol _) (zot hs)))
theorem zs_l2i {pc nx tg : Nat} {cc : Int32} {dd : Int64} {sw mk} {ls : zL} {st : List zV} {σ : zM}  (hx : zCx p R s m args c cells slots E A nL own b d sb sc) (ih : zIH p l e R s m args below meth c cells slots Q E A N nL sb sc K r) (hc : zck b own nL (pc, (.l2i, nx, tg, cc, dd, sw, mk)) = true) (h : zop C own rk K ls st σ (.l2i, nx, tg, cc, dd, sw, mk) = some r) : zX p l e R s m args below meth c cells slots Q E A N nL sb sc pc ls st σ := by
  obtain ⟨hd, h1⟩ := zck_s hc
  obtain ⟨rfl, hd⟩ := znx (n := 1) hd (by simpa [zck1] using h1)
  obtain ⟨x, t, rfl, h⟩ := zl1_s h
  intro H locs lsA hH hsc hN hS hL hl hs
  exact lv_l2i hx.1 hx.2.1 hd rfl (ih _ _ _ _ h H locs lsA hH hsc hN hS hL hl (zoc (zoi _) (zot hs)))
theorem zs_i2b {pc nx tg : Nat} {cc : Int32} {dd : Int64} {sw mk} {ls : zL} {st : List zV} {σ : zM}  (hx : zCx p R s m args c cells slots E A nL own b d sb sc) (ih : zIH p l e R s m args below meth c cells slots Q E A N nL sb sc K r) (hc : zck b own nL (pc, (.i2b, nx, tg, cc, dd, sw, mk)) = true) (h : zop C own rk K ls st σ (.i2b, nx, tg, cc, dd, sw, mk) = some r) : zX p l e R s m args below meth c cells slots Q E A N nL sb sc pc ls st σ := by
  obtain ⟨hd, h1⟩ := zck_s hc
  obtain ⟨rfl, hd⟩ := znx (n := 1) hd (by simpa [zck1] using h1)
  obtain ⟨x, t, rfl, h⟩ := zo1_s h
  intro H locs lsA hH hsc hN hS hL hl hs
  exact lv_i2b hx.1 hx.2.1 hd rfl (ih _ _ _ _ h H locs lsA hH hsc hN hS hL hl (zoc (zoi _) (zot hs)))
theorem zs_i2s {pc nx tg : Nat} {cc : Int32} {dd : Int64} {sw mk} {ls : zL} {st : List zV} {σ : zM}  (hx : zCx p R s m args c cells slots E A nL own b d sb sc) (ih : zIH p l e R s m args below meth c cells slots Q E A N nL sb sc K r) (hc : zck b own nL (pc, (.i2s, nx, tg, cc, dd, sw, mk)) = true) (h : zop C own rk K ls st σ (.i2s, nx, tg, cc, dd, sw, mk) = some r) : zX p l e R s m args below meth c cells slots Q E A N nL sb sc pc ls st σ := by
  obtain ⟨hd, h1⟩ := zck_s hc
  obtain ⟨rfl, hd⟩ := znx (n := 1) hd (by simpa [zck1] using h1)
  obtain ⟨x, t, rfl, h⟩ := zo1_s h
  intro H locs lsA hH hsc hN hS hL hl hs
  exact lv_i2s hx.1 hx.2.1 hd rfl (ih _ _ _ _ h H locs lsA hH hsc hN hS hL hl (zoc (zoi _) (zot hs)))
theorem zs_i2c {pc nx tg : Nat} {cc : Int32} {dd : Int64} {sw mk} {ls : zL} {st : List zV} {σ : zM}  (hx : zCx p R s m args c cells slots E A nL own b d sb sc) (ih : zIH p l e R s m args below meth c cells slots Q E A N nL sb sc K r) (hc : zck b own nL (pc, (.i2c, nx, tg, cc, dd, sw, mk)) = true) (h : zop C own rk K ls st σ (.i2c, nx, tg, cc, dd, sw, mk) = some r) : zX p l e R s m args below meth c cells slots Q E A N nL sb sc pc ls st σ := by
  obtain ⟨hd, h1⟩ := zck_s hc
  obtain ⟨rfl, hd⟩ := znx (n := 1) hd (by simpa [zck1] using h1)
  obtain ⟨x, t, rfl, h⟩ := zo1_s h
  intro H locs lsA hH hsc hN hS hL hl hs
  exact lv_i2c hx.1 hx.2.1 hd rfl (ih _ _ _ _ h H locs lsA hH hsc hN hS hL hl (zoc (zoi _) (zot hs)))
theorem zs_idiv {pc nx tg : Nat} {cc : Int32} {dd : Int64} {sw mk} {ls : zL} {st : List zV} {σ : zM} (hx : zCx p R s m args c cells slots E A nL own b d sb sc) (ih : zIH p l e R s m args below meth c cells slots Q E A N nL sb sc K r) (hc : zck b own nL (pc, (.idiv, nx, tg, cc, dd, sw, mk)) = true) (h : zop C own rk K ls st σ (.idiv, nx, tg, cc, dd, sw, mk) = some r) : zX p l e R s m args below meth c cells slots Q E A N nL sb sc pc ls st σ := by
  obtain ⟨hd, h1⟩ := zck_s hc
  obtain ⟨rfl, hd⟩ := znx (n := 1) hd (by simpa [zck1] using h1)
  obtain ⟨y, x, t, rfl, g1⟩ := zo2_s h
  by_cases hy : y = 0
  · rw [if_pos hy] at g1; cases g1
  · rw [if_neg hy] at g1
    intro H locs lsA hH hsc hN hS hL hl hs
    exact lv_idiv hx.1 hx.2.1 hd hy (ih _ _ _ _ g1 H locs lsA hH hsc hN hS hL hl (zoc (zoi _) (zot (zot hs))))
theorem zs_irem {pc nx tg : Nat} {cc : Int32} {dd : Int64} {sw mk} {ls : zL} {st : List zV} {σ : zM} (hx : zCx p R s m args c cells slots E A nL own b d sb sc) (ih : zIH p l e R s m args below meth c cells slots Q E A N nL sb sc K r) (hc : zck b own nL (pc, (.irem, nx, tg, cc, dd, sw, mk)) = true) (h : zop C own rk K ls st σ (.irem, nx, tg, cc, dd, sw, mk) = some r) : zX p l e R s m args below meth c cells slots Q E A N nL sb sc pc ls st σ := by
  obtain ⟨hd, h1⟩ := zck_s hc
  obtain ⟨rfl, hd⟩ := znx (n := 1) hd (by simpa [zck1] using h1)
  obtain ⟨y, x, t, rfl, g1⟩ := zo2_s h
  by_cases hy : y = 0
  · rw [if_pos hy] at g1; cases g1
  · rw [if_neg hy] at g1
    intro H locs lsA hH hsc hN hS hL hl hs
    exact lv_irem hx.1 hx.2.1 hd hy (ih _ _ _ _ g1 H locs lsA hH hsc hN hS hL hl (zoc (zoi _) (zot (zot hs))))
theorem zs_iconst {pc nx tg : Nat} {cc : Int32} {dd : Int64} {sw mk} {ls : zL} {st : List zV} {σ : zM} {n : Int} (hx : zCx p R s m args c cells slots E A nL own b d sb sc) (ih : zIH p l e R s m args below meth c cells slots Q E A N nL sb sc K r) (hc : zck b own nL (pc, (.iconst n, nx, tg, cc, dd, sw, mk)) = true) (h : zop C own rk K ls st σ (.iconst n, nx, tg, cc, dd, sw, mk) = some r) : zX p l e R s m args below meth c cells slots Q E A N nL sb sc pc ls st σ := by
  obtain ⟨hd, h1⟩ := zck_s hc
  simp only [zck1, Bool.and_eq_true, decide_eq_true_eq] at h1
  obtain ⟨hv, h1⟩ := h1
  obtain ⟨rfl, hd⟩ := znx (n := 1) hd h1
  intro H locs lsA hH hsc hN hS hL hl hs
  exact lv_iconst hx.1 hx.2.1 hd hv (ih _ _ _ _ h H locs lsA hH hsc hN hS hL hl (zoc trivial hs))
theorem zs_bipush {pc nx tg : Nat} {cc : Int32} {dd : Int64} {sw mk} {ls : zL} {st : List zV} {σ : zM} {n : Int} (hx : zCx p R s m args c cells slots E A nL own b d sb sc) (ih : zIH p l e R s m args below meth c cells slots Q E A N nL sb sc K r) (hc : zck b own nL (pc, (.bipush n, nx, tg, cc, dd, sw, mk)) = true) (h : zop C own rk K ls st σ (.bipush n, nx, tg, cc, dd, sw, mk) = some r) : zX p l e R s m args below meth c cells slots Q E A N nL sb sc pc ls st σ := by
  obtain ⟨hd, h1⟩ := zck_s hc
  simp only [zck1, Bool.and_eq_true, decide_eq_true_eq] at h1
  obtain ⟨hv, h1⟩ := h1
  obtain ⟨rfl, hd⟩ := znx (n := 2) hd h1
  intro H locs lsA hH hsc hN hS hL hl hs
  exact lv_bipush hx.1 hx.2.1 hd hv (ih _ _ _ _ h H locs lsA hH hsc hN hS hL hl (zoc trivial hs))
theorem zs_sipush {pc nx tg : Nat} {cc : Int32} {dd : Int64} {sw mk} {ls : zL} {st : List zV} {σ : zM} {n : Int} (hx : zCx p R s m args c cells slots E A nL own b d sb sc) (ih : zIH p l e R s m args below meth c cells slots Q E A N nL sb sc K r) (hc : zck b own nL (pc, (.sipush n, nx, tg, cc, dd, sw, mk)) = true) (h : zop C own rk K ls st σ (.sipush n, nx, tg, cc, dd, sw, mk) = some r) : zX p l e R s m args below meth c cells slots Q E A N nL sb sc pc ls st σ := by
  obtain ⟨hd, h1⟩ := zck_s hc
  simp only [zck1, Bool.and_eq_true, decide_eq_true_eq] at h1
  obtain ⟨hv, h1⟩ := h1
  obtain ⟨rfl, hd⟩ := znx (n := 3) hd h1
  intro H locs lsA hH hsc hN hS hL hl hs
  exact lv_sipush hx.1 hx.2.1 hd hv (ih _ _ _ _ h H locs lsA hH hsc hN hS hL hl (zoc trivial hs))
theorem zs_lconst {pc nx tg : Nat} {cc : Int32} {dd : Int64} {sw mk} {ls : zL} {st : List zV} {σ : zM} {n : Fin 2} (hx : zCx p R s m args c cells slots E A nL own b d sb sc) (ih : zIH p l e R s m args below meth c cells slots Q E A N nL sb sc K r) (hc : zck b own nL (pc, (.lconst n, nx, tg, cc, dd, sw, mk)) = true) (h : zop C own rk K ls st σ (.lconst n, nx, tg, cc, dd, sw, mk) = some r) : zX p l e R s m args below meth c cells slots Q E A N nL sb sc pc ls st σ := by
  obtain ⟨hd, h1⟩ := zck_s hc
  simp only [zck1, Bool.and_eq_true, decide_eq_true_eq] at h1
  obtain ⟨hv, h1⟩ := h1
  obtain ⟨rfl, hd⟩ := znx (n := 1) hd h1
  intro H locs lsA hH hsc hN hS hL hl hs
  exact lv_lconst hx.1 hx.2.1 hd hv (ih _ _ _ _ h H locs lsA hH hsc hN hS hL hl (zoc trivial hs))
theorem zkc_s {i : Nat} {v : Int32} (h : zkc own i = some v) : Cond.constant (zcn own) i v ∈ zGW := by
  unfold zkc at h
  cases hf : zKC.find? (fun q => Nat.beq q.1 own && Nat.beq q.2.1 i) with
  | none => rw [hf] at h; cases h
  | some q =>
    rw [hf] at h
    cases h
    have h2 := List.find?_some hf
    simp only [Bool.and_eq_true] at h2
    have := zKC_ok q (List.mem_of_find?_eq_some hf)
    rw [Nat.eq_of_beq_eq_true h2.1, Nat.eq_of_beq_eq_true h2.2] at this
    exact this
theorem zkl_s {i : Nat} {v : Int64} (h : zkl own i = some v) : Cond.constantLong (zcn own) i v ∈ zGW := by
  unfold zkl at h
  cases hf : zKL.find? (fun q => Nat.beq q.1 own && Nat.beq q.2.1 i) with
  | none => rw [hf] at h; cases h
  | some q =>
    rw [hf] at h
    cases h
    have h2 := List.find?_some hf
    simp only [Bool.and_eq_true] at h2
    have := zKL_ok q (List.mem_of_find?_eq_some hf)
    rw [Nat.eq_of_beq_eq_true h2.1, Nat.eq_of_beq_eq_true h2.2] at this
    exact this
theorem zCx.wd (hx : zCx p R s m args c cells slots E A nL own b d sb sc) {w : Jvm.Cond} (h : w ∈ zGW) : w.before args s = true := hx.2.2.2.2.1 w h
theorem zCx.ow (hx : zCx p R s m args c cells slots E A nL own b d sb sc) : s.vm.findClass (zcn own) = some m.cls := hx.2.2.2.1
theorem zCx.cat (hx : zCx p R s m args c cells slots E A nL own b d sb sc) : E.2.2.2.category = 1 := hx.2.2.2.2.2.2.1.2.2.2.2
theorem zCx.inj (hx : zCx p R s m args c cells slots E A nL own b d sb sc) : zIj E := hx.2.2.2.2.2.2.2.1
theorem zCx.k (hx : zCx p R s m args c cells slots E A nL own b d sb sc) : zK E s := hx.2.2.2.2.2.1
theorem zCx.tx (hx : zCx p R s m args c cells slots E A nL own b d sb sc) : zTx E A s s.heap := hx.2.2.2.2.2.2.1
theorem zCx.sub (hx : zCx p R s m args c cells slots E A nL own b d sb sc) : ∀ q, zA E q → A q := hx.2.2.2.2.2.2.2.2.1
theorem zCx.room (hx : zCx p R s m args c cells slots E A nL own b d sb sc) : d + 1 ≤ R.frames ∧ 60 * d + 60 ≤ R.locals ∧ cells ≤ R.cells ∧ slots ≤ R.slots := hx.2.2.2.2.2.2.2.2.2.1
theorem zs_ldc_w {pc nx tg i : Nat} {cc : Int32} {dd : Int64} {sw mk} {ls : zL} {st : List zV} {σ : zM} (hx : zCx p R s m args c cells slots E A nL own b d sb sc) (ih : zIH p l e R s m args below meth c cells slots Q E A N nL sb sc K r) (hc : zck b own nL (pc, (.ldc_w i, nx, tg, cc, dd, sw, mk)) = true) (h : zop C own rk K ls st σ (.ldc_w i, nx, tg, cc, dd, sw, mk) = some r) : zX p l e R s m args below meth c cells slots Q E A N nL sb sc pc ls st σ := by
  obtain ⟨hd, h1⟩ := zck_s hc
  simp only [zck1, Bool.and_eq_true, decide_eq_true_eq] at h1
  obtain ⟨hv, h1⟩ := h1
  obtain ⟨rfl, hd⟩ := znx (n := 3) hd h1
  intro H locs lsA hH hsc hN hS hL hl hs
  exact lv_ldcw hx.1 hx.2.1 hx.ow (hx.wd (zkc_s hv)) hd (ih _ _ _ _ h H locs lsA hH hsc hN hS hL hl (zoc trivial hs))
theorem zs_ldc2_w {pc nx tg i : Nat} {cc : Int32} {dd : Int64} {sw mk} {ls : zL} {st : List zV} {σ : zM} (hx : zCx p R s m args c cells slots E A nL own b d sb sc) (ih : zIH p l e R s m args below meth c cells slots Q E A N nL sb sc K r) (hc : zck b own nL (pc, (.ldc2_w i, nx, tg, cc, dd, sw, mk)) = true) (h : zop C own rk K ls st σ (.ldc2_w i, nx, tg, cc, dd, sw, mk) = some r) : zX p l e R s m args below meth c cells slots Q E A N nL sb sc pc ls st σ := by
  obtain ⟨hd, h1⟩ := zck_s hc
  simp only [zck1, Bool.and_eq_true, decide_eq_true_eq] at h1
  obtain ⟨hv, h1⟩ := h1
  obtain ⟨rfl, hd⟩ := znx (n := 3) hd h1
  intro H locs lsA hH hsc hN hS hL hl hs
  exact lv_ldc2 hx.1 hx.2.1 hx.ow (hx.wd (zkl_s hv)) hd (ih _ _ _ _ h H locs lsA hH hsc hN hS hL hl (zoc trivial hs))
theorem zs_ldc {pc nx tg i : Nat} {cc : Int32} {dd : Int64} {sw mk} {ls : zL} {st : List zV} {σ : zM} (hx : zCx p R s m args c cells slots E A nL own b d sb sc) (ih : zIH p l e R s m args below meth c cells slots Q E A N nL sb sc K r) (hc : zck b own nL (pc, (.ldc i, nx, tg, cc, dd, sw, mk)) = true) (h : zop C own rk K ls st σ (.ldc i, nx, tg, cc, dd, sw, mk) = some r) : zX p l e R s m args below meth c cells slots Q E A N nL sb sc pc ls st σ := by
  obtain ⟨hd, h1⟩ := zck_s hc
  simp only [zck1, Bool.and_eq_true, Bool.or_eq_true, decide_eq_true_eq] at h1
  obtain ⟨hv, h1⟩ := h1
  obtain ⟨rfl, hd⟩ := znx (n := 2) hd h1
  intro H locs lsA hH hsc hN hS hL hl hs
  simp only [zop] at h
  cases hz : zsd own i with
  | none =>
    rw [hz] at h hv
    rcases hv with hv | hv
    · cases hv
    · exact lv_ldc hx.1 hx.2.1 hx.ow (hx.wd (zkc_s hv)) hd (ih _ _ _ _ h H locs lsA hH hsc hN hS hL hl (zoc trivial hs))
  | some j =>
    rw [hz] at h
    obtain ⟨q, hq, ho, hi, hj, hj2⟩ := zSD_ok hz
    have hr := hx.tx.2.1 q hq
    subst hi
    subst hj
    have h2 := ih _ _ _ _ h H locs lsA hH hsc hN hS hL hl (zoc (by show zokv sb (.inr (.inr (q.2.2, 95))); exact ⟨hj2, rfl⟩) hs)
    exact va_ldcS hx.1 hx.2.1 (own := RX10) (by rw [← ho]; exact hx.ow) hr hd h2
theorem zs_iload_n {pc nx tg : Nat} {cc : Int32} {dd : Int64} {sw mk} {ls : zL} {st : List zV} {σ : zM} {a : Fin 4} (hx : zCx p R s m args c cells slots E A nL own b d sb sc) (ih : zIH p l e R s m args below meth c cells slots Q E A N nL sb sc K r) (hc : zck b own nL (pc, (.iload_n a, nx, tg, cc, dd, sw, mk)) = true) (h : zop C own rk K ls st σ (.iload_n a, nx, tg, cc, dd, sw, mk) = some r) : zX p l e R s m args below meth c cells slots Q E A N nL sb sc pc ls st σ := by
  obtain ⟨hd, h1⟩ := zck_s hc
  obtain ⟨rfl, hd⟩ := znx (n := 1) hd (by simpa [zck1] using h1)
  obtain ⟨x, hv, h⟩ := zvI_s h
  intro H locs lsA hH hsc hN hS hL hl hs
  exact lv_iload_n hx.1 hx.2.1 hd rfl (zlv_get hL hv) (ih _ _ _ _ h H locs lsA hH hsc hN hS hL hl (zoc trivial hs))
theorem zs_iload {pc nx tg : Nat} {cc : Int32} {dd : Int64} {sw mk} {ls : zL} {st : List zV} {σ : zM} {a : Nat} (hx : zCx p R s m args c cells slots E A nL own b d sb sc) (ih : zIH p l e R s m args below meth c cells slots Q E A N nL sb sc K r) (hc : zck b own nL (pc, (.iload a, nx, tg, cc, dd, sw, mk)) = true) (h : zop C own rk K ls st σ (.iload a, nx, tg, cc, dd, sw, mk) = some r) : zX p l e R s m args below meth c cells slots Q E A N nL sb sc pc ls st σ := by
  obtain ⟨hd, h1⟩ := zck_s hc
  obtain ⟨rfl, hd⟩ := znx (n := 2) hd (by simpa [zck1] using h1)
  obtain ⟨x, hv, h⟩ := zvI_s h
  intro H locs lsA hH hsc hN hS hL hl hs
  exact lv_iload hx.1 hx.2.1 hd (zlv_get hL hv) (ih _ _ _ _ h H locs lsA hH hsc hN hS hL hl (zoc trivial hs))
theorem zs_lload_n {pc nx tg : Nat} {cc : Int32} {dd : Int64} {sw mk} {ls : zL} {st : List zV} {σ : zM} {a : Fin 4} (hx : zCx p R s m args c cells slots E A nL own b d sb sc) (ih : zIH p l e R s m args below meth c cells slots Q E A N nL sb sc K r) (hc : zck b own nL (pc, (.lload_n a, nx, tg, cc, dd, sw, mk)) = true) (h : zop C own rk K ls st σ (.lload_n a, nx, tg, cc, dd, sw, mk) = some r) : zX p l e R s m args below meth c cells slots Q E A N nL sb sc pc ls st σ := by
  obtain ⟨hd, h1⟩ := zck_s hc
  obtain ⟨rfl, hd⟩ := znx (n := 1) hd (by simpa [zck1] using h1)
  obtain ⟨x, hv, h⟩ := zvL_s h
  intro H locs lsA hH hsc hN hS hL hl hs
  exact lv_lload_n hx.1 hx.2.1 hd rfl (zlv_get hL hv) (ih _ _ _ _ h H locs lsA hH hsc hN hS hL hl (zoc trivial hs))
theorem zs_lload {pc nx tg : Nat} {cc : Int32} {dd : Int64} {sw mk} {ls : zL} {st : List zV} {σ : zM} {a : Nat} (hx : zCx p R s m args c cells slots E A nL own b d sb sc) (ih : zIH p l e R s m args below meth c cells slots Q E A N nL sb sc K r) (hc : zck b own nL (pc, (.lload a, nx, tg, cc, dd, sw, mk)) = true) (h : zop C own rk K ls st σ (.lload a, nx, tg, cc, dd, sw, mk) = some r) : zX p l e R s m args below meth c cells slots Q E A N nL sb sc pc ls st σ := by
  obtain ⟨hd, h1⟩ := zck_s hc
  obtain ⟨rfl, hd⟩ := znx (n := 2) hd (by simpa [zck1] using h1)
  obtain ⟨x, hv, h⟩ := zvL_s h
  intro H locs lsA hH hsc hN hS hL hl hs
  exact lv_lload hx.1 hx.2.1 hd (zlv_get hL hv) (ih _ _ _ _ h H locs lsA hH hsc hN hS hL hl (zoc trivial hs))
theorem zs_aload_n {pc nx tg : Nat} {cc : Int32} {dd : Int64} {sw mk} {ls : zL} {st : List zV} {σ : zM} {a : Fin 4} (hx : zCx p R s m args c cells slots E A nL own b d sb sc) (ih : zIH p l e R s m args below meth c cells slots Q E A N nL sb sc K r) (hc : zck b own nL (pc, (.aload_n a, nx, tg, cc, dd, sw, mk)) = true) (h : zop C own rk K ls st σ (.aload_n a, nx, tg, cc, dd, sw, mk) = some r) : zX p l e R s m args below meth c cells slots Q E A N nL sb sc pc ls st σ := by
  obtain ⟨hd, h1⟩ := zck_s hc
  obtain ⟨rfl, hd⟩ := znx (n := 1) hd (by simpa [zck1] using h1)
  obtain ⟨g, k, hv, h⟩ := zvR_s h
  obtain ⟨h9, h⟩ := zcb_none h
  intro H locs lsA hH hsc hN hS hL hl hs
  have h2 := zlv_get hL hv
  rw [zvv_ref h9] at h2
  have h3 := ih _ _ _ _ h H locs lsA hH hsc hN hS hL hl (zoc (hl _ (zget_mem hv)) hs)
  rw [List.map_cons, zvv_ref h9] at h3
  exact lv_aload_n hx.1 hx.2.1 hd rfl h2 h3
theorem zs_istore_n {pc nx tg : Nat} {cc : Int32} {dd : Int64} {sw mk} {ls : zL} {st : List zV} {σ : zM} {a : Fin 4} (hx : zCx p R s m args c cells slots E A nL own b d sb sc) (ih : zIH p l e R s m args below meth c cells slots Q E A N nL sb sc K r) (hc : zck b own nL (pc, (.istore_n a, nx, tg, cc, dd, sw, mk)) = true) (h : zop C own rk K ls st σ (.istore_n a, nx, tg, cc, dd, sw, mk) = some r) : zX p l e R s m args below meth c cells slots Q E A N nL sb sc pc ls st σ := by
  obtain ⟨hd, h1⟩ := zck_s hc
  simp only [zck1, Bool.and_eq_true] at h1
  obtain ⟨hv, h1⟩ := h1
  obtain ⟨rfl, hd⟩ := znx (n := 1) hd h1
  obtain ⟨x, t, rfl, h⟩ := zo1_s h
  intro H locs lsA hH hsc hN hS hL hl hs
  refine lv_istore_n hx.1 hx.2.1 hd rfl hL (Nat.blt_eq.mp hv) rfl (fun ls' hL' => ?_)
  exact ih _ _ _ _ h H locs ls' hH hsc hN hS (zlv_put hx.cat rfl hL') (fun v hv => (zput_mem hv).elim (hl v) (fun q => q ▸ trivial)) (zot hs)
theorem zs_istore {pc nx tg : Nat} {cc : Int32} {dd : Int64} {sw mk} {ls : zL} {st : List zV} {σ : zM} {a : Nat} (hx : zCx p R s m args c cells slots E A nL own b d sb sc) (ih : zIH p l e R s m args below meth c cells slots Q E A N nL sb sc K r) (hc : zck b own nL (pc, (.istore a, nx, tg, cc, dd, sw, mk)) = true) (h : zop C own rk K ls st σ (.istore a, nx, tg, cc, dd, sw, mk) = some r) : zX p l e R s m args below meth c cells slots Q E A N nL sb sc pc ls st σ := by
  obtain ⟨hd, h1⟩ := zck_s hc
  simp only [zck1, Bool.and_eq_true] at h1
  obtain ⟨hv, h1⟩ := h1
  obtain ⟨rfl, hd⟩ := znx (n := 2) hd h1
  obtain ⟨x, t, rfl, h⟩ := zo1_s h
  intro H locs lsA hH hsc hN hS hL hl hs
  refine lv_istore hx.1 hx.2.1 hd hL (Nat.blt_eq.mp hv) rfl (fun ls' hL' => ?_)
  exact ih _ _ _ _ h H locs ls' hH hsc hN hS (zlv_put hx.cat rfl hL') (fun v hv => (zput_mem hv).elim (hl v) (fun q => q ▸ trivial)) (zot hs)
theorem zs_lstore_n {pc nx tg : Nat} {cc : Int32} {dd : Int64} {sw mk} {ls : zL} {st : List zV} {σ : zM} {a : Fin 4} (hx : zCx p R s m args c cells slots E A nL own b d sb sc) (ih : zIH p l e R s m args below meth c cells slots Q E A N nL sb sc K r) (hc : zck b own nL (pc, (.lstore_n a, nx, tg, cc, dd, sw, mk)) = true) (h : zop C own rk K ls st σ (.lstore_n a, nx, tg, cc, dd, sw, mk) = some r) : zX p l e R s m args below meth c cells slots Q E A N nL sb sc pc ls st σ := by
  obtain ⟨hd, h1⟩ := zck_s hc
  simp only [zck1, Bool.and_eq_true] at h1
  obtain ⟨hv, h1⟩ := h1
  obtain ⟨rfl, hd⟩ := znx (n := 1) hd h1
  obtain ⟨x, t, rfl, h⟩ := zl1_s h
  intro H locs lsA hH hsc hN hS hL hl hs
  refine lv_lstore_n hx.1 hx.2.1 hd rfl hL (Nat.blt_eq.mp hv) rfl (fun ls' hL' => ?_)
  refine ih _ _ _ _ h H locs ls' hH hsc hN hS (lv_less hL' fun q hq => ?_) (fun v hv => (zput_mem (zcut_mem hv)).elim (hl v) (fun q => q ▸ trivial)) (zot hs)
  have hne : ¬ q.1 = a.val + 1 := by
    intro z
    exact zls_cut_ne hq (by rw [z, Nat.zero_add])
  rcases zls_put hx.cat (zls_cut hq) with h | ⟨h1, h2, h3⟩
  · rw [h, Nat.zero_add]; exact List.mem_cons_self
  · refine List.mem_cons_of_mem _ (List.mem_filter.mpr ⟨h1, ?_⟩)
    rw [Nat.zero_add] at h2 h3
    simp only [Bool.and_eq_true, Bool.not_eq_true', beq_eq_false_iff_ne, ne_eq, Bool.and_eq_false_iff]
    refine ⟨h2, hne, ?_⟩
    by_cases e : q.1 + 1 = a.val
    · exact Or.inr fun z => h3 ⟨e, z⟩
    · exact Or.inl e
theorem zs_iinc {pc nx tg : Nat} {cc : Int32} {dd : Int64} {sw mk} {ls : zL} {st : List zV} {σ : zM} {a : Nat} {n : Int} (hx : zCx p R s m args c cells slots E A nL own b d sb sc) (ih : zIH p l e R s m args below meth c cells slots Q E A N nL sb sc K r) (hc : zck b own nL (pc, (.iinc a n, nx, tg, cc, dd, sw, mk)) = true) (h : zop C own rk K ls st σ (.iinc a n, nx, tg, cc, dd, sw, mk) = some r) : zX p l e R s m args below meth c cells slots Q E A N nL sb sc pc ls st σ := by
  obtain ⟨hd, h1⟩ := zck_s hc
  simp only [zck1, Bool.and_eq_true, decide_eq_true_eq] at h1
  obtain ⟨hn, hv, h1⟩ := h1
  obtain ⟨rfl, hd⟩ := znx (n := 3) hd h1
  obtain ⟨x, hg, h⟩ := zvI_s h
  intro H locs lsA hH hsc hN hS hL hl hs
  have hm := zls_get (E := E) (b := 0) hg
  rw [Nat.zero_add] at hm
  obtain ⟨k, hk⟩ := List.getElem?_of_mem hm
  refine lv_iinc hx.1 hx.2.1 hd hL hk (v := x + cc) (by rw [hn]) (Nat.blt_eq.mp hv) rfl (fun ls' hL' => ?_)
  exact ih _ _ _ _ h H locs ls' hH hsc hN hS (zlv_put hx.cat rfl hL') (fun v hv => (zput_mem hv).elim (hl v) (fun q => q ▸ trivial)) hs
theorem zs_goto {pc nx tg : Nat} {cc : Int32} {dd : Int64} {sw mk} {ls : zL} {st : List zV} {σ : zM} {n : Int} (hx : zCx p R s m args c cells slots E A nL own b d sb sc) (ih : zIH p l e R s m args below meth c cells slots Q E A N nL sb sc K r) (hc : zck b own nL (pc, (.goto n, nx, tg, cc, dd, sw, mk)) = true) (h : zop C own rk K ls st σ (.goto n, nx, tg, cc, dd, sw, mk) = some r) : zX p l e R s m args below meth c cells slots Q E A N nL sb sc pc ls st σ := by
  obtain ⟨hd, h1⟩ := zck_s hc
  simp only [zck1, Bool.and_eq_true, decide_eq_true_eq] at h1
  obtain ⟨hv, h1⟩ := h1
  obtain ⟨rfl, hd⟩ := znx (n := 3) hd h1
  intro H locs lsA hH hsc hN hS hL hl hs
  exact lv_goto hx.1 hx.2.1 hd hv (ih _ _ _ _ h H locs lsA hH hsc hN hS hL hl hs)
theorem zs_ifCond_eq {pc nx tg : Nat} {cc : Int32} {dd : Int64} {sw mk} {ls : zL} {st : List zV} {σ : zM} {n : Int} (hx : zCx p R s m args c cells slots E A nL own b d sb sc) (ih : zIH p l e R s m args below meth c cells slots Q E A N nL sb sc K r) (hc : zck b own nL (pc, (.ifCond .eq n, nx, tg, cc, dd, sw, mk)) = true) (h : zop C own rk K ls st σ (.ifCond .eq n, nx, tg, cc, dd, sw, mk) = some r) : zX p l e R s m args below meth c cells slots Q E A N nL sb sc pc ls st σ := by
  obtain ⟨hd, h1⟩ := zck_s hc
  simp only [zck1, Bool.and_eq_true, decide_eq_true_eq] at h1
  obtain ⟨hv, h1⟩ := h1
  obtain ⟨rfl, hd⟩ := znx (n := 3) hd h1
  obtain ⟨x, t, rfl, g1⟩ := zo1_s h
  intro H locs lsA hH hsc hN hS hL hl hs
  exact lv_if_eq hx.1 hx.2.1 hd hv (fun q => by rw [if_pos q] at g1; exact ih _ _ _ _ g1 H locs lsA hH hsc hN hS hL hl (zot hs)) (fun q => by rw [if_neg q] at g1; exact ih _ _ _ _ g1 H locs lsA hH hsc hN hS hL hl (zot hs))
theorem zs_ifCond_ne {pc nx tg : Nat} {cc : Int32} {dd : Int64} {sw mk} {ls : zL} {st : List zV} {σ : zM} {n : Int} (hx : zCx p R s m args c cells slots E A nL own b d sb sc) (ih : zIH p l e R s m args below meth c cells slots Q E A N nL sb sc K r) (hc : zck b own nL (pc, (.ifCond .ne n, nx, tg, cc, dd, sw, mk)) = true) (h : zop C own rk K ls st σ (.ifCond .ne n, nx, tg, cc, dd, sw, mk) = some r) : zX p l e R s m args below meth c cells slots Q E A N nL sb sc pc ls st σ := by
  obtain ⟨hd, h1⟩ := zck_s hc
  simp only [zck1, Bool.and_eq_true, decide_eq_true_eq] at h1
  obtain ⟨hv, h1⟩ := h1
  obtain ⟨rfl, hd⟩ := znx (n := 3) hd h1
  obtain ⟨x, t, rfl, g1⟩ := zo1_s h
  intro H locs lsA hH hsc hN hS hL hl hs
  exact lv_if_ne hx.1 hx.2.1 hd hv (fun q => by rw [if_neg q] at g1; exact ih _ _ _ _ g1 H locs lsA hH hsc hN hS hL hl (zot hs)) (fun q => by rw [if_pos q] at g1; exact ih _ _ _ _ g1 H locs lsA hH hsc hN hS hL hl (zot hs))
theorem zs_ifCond_lt {pc nx tg : Nat} {cc : Int32} {dd : Int64} {sw mk} {ls : zL} {st : List zV} {σ : zM} {n : Int} (hx : zCx p R s m args c cells slots E A nL own b d sb sc) (ih : zIH p l e R s m args below meth c cells slots Q E A N nL sb sc K r) (hc : zck b own nL (pc, (.ifCond .lt n, nx, tg, cc, dd, sw, mk)) = true) (h : zop C own rk K ls st σ (.ifCond .lt n, nx, tg, cc, dd, sw, mk) = some r) : zX p l e R s m args below meth c cells slots Q E A N nL sb sc pc ls st σ := by
  obtain ⟨hd, h1⟩ := zck_s hc
  simp only [zck1, Bool.and_eq_true, decide_eq_true_eq] at h1
  obtain ⟨hv, h1⟩ := h1
  obtain ⟨rfl, hd⟩ := znx (n := 3) hd h1
  obtain ⟨x, t, rfl, g1⟩ := zo1_s h
  intro H locs lsA hH hsc hN hS hL hl hs
  exact lv_if_lt hx.1 hx.2.1 hd hv (fun q => by rw [if_pos q] at g1; exact ih _ _ _ _ g1 H locs lsA hH hsc hN hS hL hl (zot hs)) (fun q => by rw [if_neg q] at g1; exact ih _ _ _ _ g1 H locs lsA hH hsc hN hS hL hl (zot hs))
theorem zs_ifCond_ge {pc nx tg : Nat} {cc : Int32} {dd : Int64} {sw mk} {ls : zL} {st : List zV} {σ : zM} {n : Int} (hx : zCx p R s m args c cells slots E A nL own b d sb sc) (ih : zIH p l e R s m args below meth c cells slots Q E A N nL sb sc K r) (hc : zck b own nL (pc, (.ifCond .ge n, nx, tg, cc, dd, sw, mk)) = true) (h : zop C own rk K ls st σ (.ifCond .ge n, nx, tg, cc, dd, sw, mk) = some r) : zX p l e R s m args below meth c cells slots Q E A N nL sb sc pc ls st σ := by
  obtain ⟨hd, h1⟩ := zck_s hc
  simp only [zck1, Bool.and_eq_true, decide_eq_true_eq] at h1
  obtain ⟨hv, h1⟩ := h1
  obtain ⟨rfl, hd⟩ := znx (n := 3) hd h1
  obtain ⟨x, t, rfl, g1⟩ := zo1_s h
  intro H locs lsA hH hsc hN hS hL hl hs
  exact lv_if_ge hx.1 hx.2.1 hd hv (fun q => by rw [if_neg (Int32.not_lt.mpr q)] at g1; exact ih _ _ _ _ g1 H locs lsA hH hsc hN hS hL hl (zot hs)) (fun q => by rw [if_pos (Int32.not_le.mp q)] at g1; exact ih _ _ _ _ g1 H locs lsA hH hsc hN hS hL hl (zot hs))
theorem zs_ifCond_gt {pc nx tg : Nat} {cc : Int32} {dd : Int64} {sw mk} {ls : zL} {st : List zV} {σ : zM} {n : Int} (hx : zCx p R s m args c cells slots E A nL own b d sb sc) (ih : zIH p l e R s m args below meth c cells slots Q E A N nL sb sc K r) (hc : zck b own nL (pc, (.ifCond .gt n, nx, tg, cc, dd, sw, mk)) = true) (h : zop C own rk K ls st σ (.ifCond .gt n, nx, tg, cc, dd, sw, mk) = some r) : zX p l e R s m args below meth c cells slots Q E A N nL sb sc pc ls st σ := by
  obtain ⟨hd, h1⟩ := zck_s hc
  simp only [zck1, Bool.and_eq_true, decide_eq_true_eq] at h1
  obtain ⟨hv, h1⟩ := h1
  obtain ⟨rfl, hd⟩ := znx (n := 3) hd h1
  obtain ⟨x, t, rfl, g1⟩ := zo1_s h
  intro H locs lsA hH hsc hN hS hL hl hs
  exact lv_if_gt hx.1 hx.2.1 hd hv (fun q => by rw [if_pos q] at g1; exact ih _ _ _ _ g1 H locs lsA hH hsc hN hS hL hl (zot hs)) (fun q => by rw [if_neg q] at g1; exact ih _ _ _ _ g1 H locs lsA hH hsc hN hS hL hl (zot hs))
theorem zs_ifCond_le {pc nx tg : Nat} {cc : Int32} {dd : Int64} {sw mk} {ls : zL} {st : List zV} {σ : zM} {n : Int} (hx : zCx p R s m args c cells slots E A nL own b d sb sc) (ih : zIH p l e R s m args below meth c cells slots Q E A N nL sb sc K r) (hc : zck b own nL (pc, (.ifCond .le n, nx, tg, cc, dd, sw, mk)) = true) (h : zop C own rk K ls st σ (.ifCond .le n, nx, tg, cc, dd, sw, mk) = some r) : zX p l e R s m args below meth c cells slots Q E A N nL sb sc pc ls st σ := by
  obtain ⟨hd, h1⟩ := zck_s hc
  simp only [zck1, Bool.and_eq_true, decide_eq_true_eq] at h1
  obtain ⟨hv, h1⟩ := h1
  obtain ⟨rfl, hd⟩ := znx (n := 3) hd h1
  obtain ⟨x, t, rfl, g1⟩ := zo1_s h
  intro H locs lsA hH hsc hN hS hL hl hs
  exact lv_if_le hx.1 hx.2.1 hd hv (fun q => by rw [if_neg (Int32.not_lt.mpr q)] at g1; exact ih _ _ _ _ g1 H locs lsA hH hsc hN hS hL hl (zot hs)) (fun q => by rw [if_pos (Int32.not_le.mp q)] at g1; exact ih _ _ _ _ g1 H locs lsA hH hsc hN hS hL hl (zot hs))
theorem zs_if_icmp_eq {pc nx tg : Nat} {cc : Int32} {dd : Int64} {sw mk} {ls : zL} {st : List zV} {σ : zM} {n : Int} (hx : zCx p R s m args c cells slots E A nL own b d sb sc) (ih : zIH p l e R s m args below meth c cells slots Q E A N nL sb sc K r) (hc : zck b own nL (pc, (.if_icmp .eq n, nx, tg, cc, dd, sw, mk)) = true) (h : zop C own rk K ls st σ (.if_icmp .eq n, nx, tg, cc, dd, sw, mk) = some r) : zX p l e R s m args below meth c cells slots Q E A N nL sb sc pc ls st σ := by
  obtain ⟨hd, h1⟩ := zck_s hc
  simp only [zck1, Bool.and_eq_true, decide_eq_true_eq] at h1
  obtain ⟨hv, h1⟩ := h1
  obtain ⟨rfl, hd⟩ := znx (n := 3) hd h1
  obtain ⟨y, x, t, rfl, g1⟩ := zo2_s h
  intro H locs lsA hH hsc hN hS hL hl hs
  exact lv_icmp_eq hx.1 hx.2.1 hd hv (fun q => by rw [if_pos q] at g1; exact ih _ _ _ _ g1 H locs lsA hH hsc hN hS hL hl (zot (zot hs))) (fun q => by rw [if_neg q] at g1; exact ih _ _ _ _ g1 H locs lsA hH hsc hN hS hL hl (zot (zot hs)))
theorem zs_if_icmp_ne {pc nx tg : Nat} {cc : Int32} {dd : Int64} {sw mk} {ls : zL} {st : List zV} {σ : zM} {n : Int} (hx : zCx p R s m args c cells slots E A nL own b d sb sc) (ih : zIH p l e R s m args below meth c cells slots Q E A N nL sb sc K r) (hc : zck b own nL (pc, (.if_icmp .ne n, nx, tg, cc, dd, sw, mk)) = true) (h : zop C own rk K ls st σ (.if_icmp .ne n, nx, tg, cc, dd, sw, mk) = some r) : zX p l e R s m args below meth c cells slots Q E A N nL sb sc pc ls st σ := by
  obtain ⟨hd, h1⟩ := zck_s hc
  simp only [zck1, Bool.and_eq_true, decide_eq_true_eq] at h1
  obtain ⟨hv, h1⟩ := h1
  obtain ⟨rfl, hd⟩ := znx (n := 3) hd h1
  obtain ⟨y, x, t, rfl, g1⟩ := zo2_s h
  intro H locs lsA hH hsc hN hS hL hl hs
  exact lv_icmp_ne hx.1 hx.2.1 hd hv (fun q => by rw [if_neg q] at g1; exact ih _ _ _ _ g1 H locs lsA hH hsc hN hS hL hl (zot (zot hs))) (fun q => by rw [if_pos q] at g1; exact ih _ _ _ _ g1 H locs lsA hH hsc hN hS hL hl (zot (zot hs)))
theorem zs_if_icmp_lt {pc nx tg : Nat} {cc : Int32} {dd : Int64} {sw mk} {ls : zL} {st : List zV} {σ : zM} {n : Int} (hx : zCx p R s m args c cells slots E A nL own b d sb sc) (ih : zIH p l e R s m args below meth c cells slots Q E A N nL sb sc K r) (hc : zck b own nL (pc, (.if_icmp .lt n, nx, tg, cc, dd, sw, mk)) = true) (h : zop C own rk K ls st σ (.if_icmp .lt n, nx, tg, cc, dd, sw, mk) = some r) : zX p l e R s m args below meth c cells slots Q E A N nL sb sc pc ls st σ := by
  obtain ⟨hd, h1⟩ := zck_s hc
  simp only [zck1, Bool.and_eq_true, decide_eq_true_eq] at h1
  obtain ⟨hv, h1⟩ := h1
  obtain ⟨rfl, hd⟩ := znx (n := 3) hd h1
  obtain ⟨y, x, t, rfl, g1⟩ := zo2_s h
  intro H locs lsA hH hsc hN hS hL hl hs
  exact lv_icmp_lt hx.1 hx.2.1 hd hv (fun q => by rw [if_pos q] at g1; exact ih _ _ _ _ g1 H locs lsA hH hsc hN hS hL hl (zot (zot hs))) (fun q => by rw [if_neg q] at g1; exact ih _ _ _ _ g1 H locs lsA hH hsc hN hS hL hl (zot (zot hs)))
theorem zs_if_icmp_ge {pc nx tg : Nat} {cc : Int32} {dd : Int64} {sw mk} {ls : zL} {st : List zV} {σ : zM} {n : Int} (hx : zCx p R s m args c cells slots E A nL own b d sb sc) (ih : zIH p l e R s m args below meth c cells slots Q E A N nL sb sc K r) (hc : zck b own nL (pc, (.if_icmp .ge n, nx, tg, cc, dd, sw, mk)) = true) (h : zop C own rk K ls st σ (.if_icmp .ge n, nx, tg, cc, dd, sw, mk) = some r) : zX p l e R s m args below meth c cells slots Q E A N nL sb sc pc ls st σ := by
  obtain ⟨hd, h1⟩ := zck_s hc
  simp only [zck1, Bool.and_eq_true, decide_eq_true_eq] at h1
  obtain ⟨hv, h1⟩ := h1
  obtain ⟨rfl, hd⟩ := znx (n := 3) hd h1
  obtain ⟨y, x, t, rfl, g1⟩ := zo2_s h
  intro H locs lsA hH hsc hN hS hL hl hs
  exact lv_icmp_ge hx.1 hx.2.1 hd hv (fun q => by rw [if_neg (Int32.not_lt.mpr q)] at g1; exact ih _ _ _ _ g1 H locs lsA hH hsc hN hS hL hl (zot (zot hs))) (fun q => by rw [if_pos (Int32.not_le.mp q)] at g1; exact ih _ _ _ _ g1 H locs lsA hH hsc hN hS hL hl (zot (zot hs)))
theorem zs_if_icmp_gt {pc nx tg : Nat} {cc : Int32} {dd : Int64} {sw mk} {ls : zL} {st : List zV} {σ : zM} {n : Int} (hx : zCx p R s m args c cells slots E A nL own b d sb sc) (ih : zIH p l e R s m args below meth c cells slots Q E A N nL sb sc K r) (hc : zck b own nL (pc, (.if_icmp .gt n, nx, tg, cc, dd, sw, mk)) = true) (h : zop C own rk K ls st σ (.if_icmp .gt n, nx, tg, cc, dd, sw, mk) = some r) : zX p l e R s m args below meth c cells slots Q E A N nL sb sc pc ls st σ := by
  obtain ⟨hd, h1⟩ := zck_s hc
  simp only [zck1, Bool.and_eq_true, decide_eq_true_eq] at h1
  obtain ⟨hv, h1⟩ := h1
  obtain ⟨rfl, hd⟩ := znx (n := 3) hd h1
  obtain ⟨y, x, t, rfl, g1⟩ := zo2_s h
  intro H locs lsA hH hsc hN hS hL hl hs
  exact lv_icmp_gt hx.1 hx.2.1 hd hv (fun q => by rw [if_pos q] at g1; exact ih _ _ _ _ g1 H locs lsA hH hsc hN hS hL hl (zot (zot hs))) (fun q => by rw [if_neg q] at g1; exact ih _ _ _ _ g1 H locs lsA hH hsc hN hS hL hl (zot (zot hs)))
theorem zs_if_icmp_le {pc nx tg : Nat} {cc : Int32} {dd : Int64} {sw mk} {ls : zL} {st : List zV} {σ : zM} {n : Int} (hx : zCx p R s m args c cells slots E A nL own b d sb sc) (ih : zIH p l e R s m args below meth c cells slots Q E A N nL sb sc K r) (hc : zck b own nL (pc, (.if_icmp .le n, nx, tg, cc, dd, sw, mk)) = true) (h : zop C own rk K ls st σ (.if_icmp .le n, nx, tg, cc, dd, sw, mk) = some r) : zX p l e R s m args below meth c cells slots Q E A N nL sb sc pc ls st σ := by
  obtain ⟨hd, h1⟩ := zck_s hc
  simp only [zck1, Bool.and_eq_true, decide_eq_true_eq] at h1
  obtain ⟨hv, h1⟩ := h1
  obtain ⟨rfl, hd⟩ := znx (n := 3) hd h1
  obtain ⟨y, x, t, rfl, g1⟩ := zo2_s h
  intro H locs lsA hH hsc hN hS hL hl hs
  exact lv_icmp_le hx.1 hx.2.1 hd hv (fun q => by rw [if_neg (Int32.not_lt.mpr q)] at g1; exact ih _ _ _ _ g1 H locs lsA hH hsc hN hS hL hl (zot (zot hs))) (fun q => by rw [if_pos (Int32.not_le.mp q)] at g1; exact ih _ _ _ _ g1 H locs lsA hH hsc hN hS hL hl (zot (zot hs)))
end ZST
end
section
theorem zCl_at {ci : Nat} (h : ci < 13) : zCl[ci]? = some (zcn ci, zTX ci, zNF ci) := by
  match ci, h with
  | 0, _ => rfl
  | 1, _ => rfl
  | 2, _ => rfl
  | 3, _ => rfl
  | 4, _ => rfl
  | 5, _ => rfl
  | 6, _ => rfl
  | 7, _ => rfl
  | 8, _ => rfl
  | 9, _ => rfl
  | 10, _ => rfl
  | 11, _ => rfl
  | 12, _ => rfl
theorem zlay_all {ci : Nat} (h : ci < 13) : ∀ w ∈ u_ws (zcn ci) (zTX ci) (zNF ci), w ∈ zGW := by
  match ci, h with
  | 0, _ => exact zlay_X0
  | 1, _ => exact zlay_X1
  | 2, _ => exact zlay_X2
  | 3, _ => exact zlay_X3
  | 4, _ => exact zlay_X4
  | 5, _ => exact zlay_X5
  | 6, _ => exact zlay_X6
  | 7, _ => exact zlay_X7
  | 8, _ => exact zlay_X8
  | 9, _ => exact zlay_X9
  | 10, _ => exact zlay_X10
  | 11, _ => exact zlay_X11
  | 12, _ => exact zlay_X12
theorem zflw_lo {own i ci j : Nat} (h : ci < 13) : zflw own i ci j = .fieldLink (zcn own) i ((zTX ci) j).1 ((zTX ci) j).2.1 ((zTX ci) j).2.2.1 := by
  match ci, h with
  | 0, _ => rfl
  | 1, _ => rfl
  | 2, _ => rfl
  | 3, _ => rfl
  | 4, _ => rfl
  | 5, _ => rfl
  | 6, _ => rfl
  | 7, _ => rfl
  | 8, _ => rfl
  | 9, _ => rfl
  | 10, _ => rfl
  | 11, _ => rfl
  | 12, _ => rfl
def ztyl : List (Nat → FieldType) := [tyX0, tyX1, tyX2, tyX3, tyX4, tyX5, tyX6, tyX7, tyX8, tyX9, tyX10, tyX11, tyX12]
def zty (ci : Nat) : Nat → FieldType := ztyl.getD ci (fun _ => .int)
theorem zty_ok {ci : Nat} (h : ci < 13) : ∀ k, k < zNF ci → parseFieldDescriptor ((zTX ci) k).2.2.1 = some (zty ci k) := by
  match ci, h with
  | 0, _ => exact tyX0_ok
  | 1, _ => exact tyX1_ok
  | 2, _ => exact tyX2_ok
  | 3, _ => exact tyX3_ok
  | 4, _ => exact tyX4_ok
  | 5, _ => exact tyX5_ok
  | 6, _ => exact tyX6_ok
  | 7, _ => exact tyX7_ok
  | 8, _ => exact tyX8_ok
  | 9, _ => exact tyX9_ok
  | 10, _ => exact tyX10_ok
  | 11, _ => exact tyX11_ok
  | 12, _ => exact tyX12_ok
theorem znm_ok {ci : Nat} (h : ci < 13) : ∀ a, a < zNF ci → ∀ b, b < zNF ci → a ≠ b → ((zTX ci) a).2.1 ≠ ((zTX ci) b).2.1 := by
  match ci, h with
  | 0, _ => exact nmX0
  | 1, _ => exact nmX1
  | 2, _ => exact nmX2
  | 3, _ => exact nmX3
  | 4, _ => exact nmX4
  | 5, _ => exact nmX5
  | 6, _ => exact nmX6
  | 7, _ => exact nmX7
  | 8, _ => exact nmX8
  | 9, _ => exact nmX9
  | 10, _ => exact nmX10
  | 11, _ => exact nmX11
  | 12, _ => exact nmX12
theorem zkd_far {k : Nat} (h : 98 ≤ k) : zkd k = (9, 0) := by
  have : zKD.length = 98 := by decide +kernel
  unfold zkd
  rw [List.getD_eq_getElem?_getD, List.getElem?_eq_none (by omega)]
  rfl
theorem zkd_lt {k t n : Nat} (h : zkd k = (t, n)) (ht : t < 9) : k < 98 := by
  rcases Nat.lt_or_ge k 98 with q | q
  · exact q
  · rw [zkd_far q] at h; cases h; omega
theorem zkd_cls {k n : Nat} (h : zkd k = (0, n)) : n < 13 := by
  have hall : ∀ k, k < 98 → (zkd k).1 = 0 → (zkd k).2 < 13 := by decide +kernel
  have := hall k (zkd_lt h (by omega)) (by rw [h])
  rw [h] at this
  exact this
theorem zkd_len {k t n : Nat} (h : zkd k = (t, n)) (ht : t < 5) (h0 : 0 < t) : n ≤ 320 := by
  have hall : ∀ k, k < 98 → (zkd k).1 < 5 → 0 < (zkd k).1 → (zkd k).2 ≤ 320 := by decide +kernel
  have := hall k (zkd_lt h (by omega)) (by rw [h]; exact ht) (by rw [h]; exact h0)
  rw [h] at this
  exact this
/-- a field that holds a number isn't final, and is an int or a boolean -/
theorem zput_ok {k ci j : Nat} (h : zkd k = (0, ci)) (hj : j < zNF ci) (hz : zed k j = none) : ((zTX ci) j).2.2.2 = false ∧ zty ci j = (if zbl ci j = true then FieldType.boolean else FieldType.int) := by
  have hall : ∀ k, k < 98 → (zkd k).1 = 0 → ∀ j, j < zNF (zkd k).2 → zed k j = none → ((zTX (zkd k).2) j).2.2.2 = false ∧ zty (zkd k).2 j = (if zbl (zkd k).2 j = true then FieldType.boolean else FieldType.int) := by decide +kernel
  have := hall k (zkd_lt h (by omega)) (by rw [h]) j (by rw [h]; exact hj) hz
  rw [h] at this
  exact this
/-- where a field leads there is a cell -/
theorem zed_ok {k ci j g2 k2 : Nat} {go : Option Nat} (h : zkd k = (0, ci)) (hz : zed k j = some (go, k2)) {g : Nat} (hg : g < zNI k) (he : g2 = go.getD g) : g2 < zNI k2 ∧ (zkd k2).1 < 5 ∧ Nat.beq k2 99 = false := by
  have hall : ∀ k, k < 98 → (zkd k).1 = 0 → ∀ x ∈ zED.getD k [], ∀ q, x = some q → ((q.1 = none → zNI k ≤ zNI q.2) ∧ (∀ g0, q.1 = some g0 → g0 < zNI q.2) ∧ (zkd q.2).1 < 5 ∧ Nat.beq q.2 99 = false) := by
    intro k hk h0 x hx q hq
    have : (zED.getD k []).all (fun x => match x with | none => true | some (none, k2) => decide (zNI k ≤ zNI k2) && decide ((zkd k2).1 < 5) && !Nat.beq k2 99 | some (some g0, k2) => decide (g0 < zNI k2) && decide ((zkd k2).1 < 5) && !Nat.beq k2 99) = true := by
      have hq : ∀ k, k < 98 → (zED.getD k []).all (fun x => match x with | none => true | some (none, k2) => decide (zNI k ≤ zNI k2) && decide ((zkd k2).1 < 5) && !Nat.beq k2 99 | some (some g0, k2) => decide (g0 < zNI k2) && decide ((zkd k2).1 < 5) && !Nat.beq k2 99) = true := by decide +kernel
      exact hq k hk
    have h1 := List.all_eq_true.mp this x hx
    subst hq
    obtain ⟨go, k2⟩ := q
    cases go with
    | none =>
      simp only [Bool.and_eq_true, decide_eq_true_eq, Bool.not_eq_true'] at h1
      exact ⟨fun _ => h1.1.1, fun _ z => (by cases z), h1.1.2, h1.2⟩
    | some g0 =>
      simp only [Bool.and_eq_true, decide_eq_true_eq, Bool.not_eq_true'] at h1
      exact ⟨fun z => (by cases z), fun _ z => (by cases z; exact h1.1.1), h1.1.2, h1.2⟩
  unfold zed at hz
  rw [List.getD_eq_getElem?_getD] at hz
  cases hx : (zED.getD k [])[j]? with
  | none => rw [hx] at hz; cases hz
  | some x =>
    rw [hx] at hz
    have hx' : x = some (go, k2) := hz
    obtain ⟨a1, a2, a3, a4⟩ := hall k (zkd_lt h (by omega)) (by rw [h]) x (List.mem_of_getElem? hx) _ hx'
    subst he
    cases go with
    | none => exact ⟨Nat.lt_of_lt_of_le hg (a1 rfl), a3, a4⟩
    | some g0 => exact ⟨a2 g0 rfl, a3, a4⟩
section ZMM
variable {p : Program} {l : Launch} {e : Env} {R : Room} {s : State} {m : MethodId} {args : Array Value} {below : List Frame} {meth : Method} {c : Code} {cells slots : Nat} {Q : State → Prop} {E : zEn} {A : Nat → Prop} {N nL : Nat} {sb : Bool} {sc : zM → Prop} {own d rk : Nat} {b : ByteArray} {C : zC} {K : zKt} {r : Int32 × Int64 × zM}
/-- reading a field, at the machine -/
theorem zm_get (hx : zCx p R s m args c cells slots E A nL own b d sb sc) {H : Heap} {locs : List Loc} {lsA : Array Slot} {σ : zM} {g k i ci j pc : Nat} {rest : List Value} (hH : zHp E σ H) (hk : zkd k = (0, ci)) (hg : g < zNI k) (hf : zfd own i = some (ci, j)) (hd : decode b pc = .ok (.getfield i, 3))
    (kk : W p l e R s m args below meth c H locs cells slots Q (F0 m (pc + 3) lsA (zFv E σ g k j :: rest))) : W p l e R s m args below meth c H locs cells slots Q (F0 m pc lsA (.ref (E.1 g k) :: rest)) := by
  have hci := zkd_cls hk
  obtain ⟨hw, hj, -⟩ := zFok_all own _ (zfa_mem hf)
  have hj := hj hci
  obtain ⟨hS, hfc, kC, hkC, hkind⟩ := hx.k.1 ci _ (zCl_at hci)
  obtain ⟨cf, kf, fi, f, hi, hsl⟩ := hS j hj
  obtain ⟨cell, q1, q2, q3, q4⟩ := hH.obj hk hg
  have hw : Cond.fieldLink (zcn own) i ((zTX ci) j).1 ((zTX ci) j).2.1 ((zTX ci) j).2.2.1 ∈ zGW := by
    have := zflw_lo (own := own) (i := i) (j := j) hci
    rw [← this]
    exact hw
  refine W.getf hx.1 hx.2.1 hx.ow (hx.wd hw) hi (u_facts (args := args) hfc hkC (u_lays (fun w h => hx.wd h) (zlay_all hci) hj) hi).1 q1 (by rw [q3]; exact fun h => by cases h) (v := zFv E σ g k j) ?_ rfl rfl hd kk
  rw [hsl, q4 j hj]
/-- a store into a field -/
theorem zm_put (hx : zCx p R s m args c cells slots E A nL own b d sb sc) {H : Heap} {locs : List Loc} {lsA : Array Slot} {σ : zM} {g k i ci j pc : Nat} {x : Int32} {rest : List Value} (hH : zHp E σ H) (hk : zkd k = (0, ci)) (hg : g < zNI k) (hz : zed k j = none) (hf : zfd own i = some (ci, j)) (hbl : zbl ci j = true → x = 0 ∨ x = 1) (hS0 : va_S A s.heap H locs) (hd : decode b pc = .ok (.putfield i, 3))
    (kk : ∀ (H1 : Heap) (locs1 : List Loc), zHp E (zwI σ g k j x) H1 → H1.size = H.size → va_S A s.heap H1 locs1 → W p l e R s m args below meth c H1 locs1 cells slots Q (F0 m (pc + 3) lsA rest)) : W p l e R s m args below meth c H locs cells slots Q (F0 m pc lsA (.int x :: .ref (E.1 g k) :: rest)) := by
  have hci := zkd_cls hk
  obtain ⟨hw, hj, -⟩ := zFok_all own _ (zfa_mem hf)
  have hj := hj hci
  obtain ⟨hfin, hty⟩ := zput_ok hk hj hz
  have hKK : va_K E.2.2.1 zCl [] s := ⟨hx.k.1, fun k q h => by simp at h⟩
  have hap := va_apart (own := "") (args := args) (fun w h => hx.wd h) (zlay_all hci) (zty ci) (zty_ok hci) (znm_ok hci) hKK (zCl_at hci)
  obtain ⟨hS, hfc, kC, hkC, hkind⟩ := hx.k.1 ci _ (zCl_at hci)
  obtain ⟨cf, kf, fi, f, hi, hsl⟩ := hS j hj
  obtain ⟨cell, q1, q2, q3, q4⟩ := hH.obj hk hg
  have hw : Cond.fieldLink (zcn own) i ((zTX ci) j).1 ((zTX ci) j).2.1 ((zTX ci) j).2.2.1 ∈ zGW := by
    have := zflw_lo (own := own) (i := i) (j := j) hci
    rw [← this]
    exact hw
  have hlay := hx.wd (zlay_all hci _ (u_in_lay hj))
  unfold u_lay at hlay
  rw [if_neg (by rw [hfin]; decide)] at hlay
  have hst := (u_facts (args := args) hfc hkC (u_lays (fun w h => hx.wd h) (zlay_all hci) hj) hi).1
  have hv : narrow (zty ci j) (.int x) = .int x ∧ fits (zty ci j) (.int x) = true := by
    rw [hty]
    by_cases hb : zbl ci j = true
    · rw [if_pos hb]
      rcases hbl hb with rfl | rfl <;> decide
    · rw [if_neg hb]
      exact ⟨rfl, rfl⟩
  have h6 := u_store hfc hkC hkind hlay hi (zty_ok hci j hj) hv.1 hv.2
  refine W.putK hx.1 hx.2.1 (f := f) ⟨hx.ow, hx.wd hw, ⟨_, _, _, hi⟩, hst⟩ (by rw [q2]; exact h6) q1 q3 (by rw [hsl]; exact k2_hasslot (q4 j hj)) rfl rfl hd fun H' e1 e2 e3 => ?_
  rw [hsl] at e1 ⊢
  refine kk H' _ (hH.upd hx.inj hg ?_ e3 (fun g' k' j' q => zwI_ne q) (fun g' k' j' _ => rfl)) e2 (hS0.put e2 e3 (hx.sub _ ⟨g, k, hg, rfl⟩))
  unfold zAt
  rw [hk]
  refine t_OB.to (V := updV (zFv E σ g k) j (.int x)) ⟨_, e1, q2, q3, t_set q4 hap hj _⟩ fun j' _ => ?_
  unfold updV zFv
  by_cases hjj : j' = j
  · subst hjj
    rw [if_pos rfl, hz]
    show _ = Value.int (if _ then x else _)
    rw [if_pos ⟨rfl, rfl, rfl⟩]
  · rw [if_neg hjj]
    split
    · show _ = Value.int (if _ then x else _)
      rw [if_neg fun z => hjj z.2.2]
    · rfl
    · rfl
theorem zm_iald (hx : zCx p R s m args c cells slots E A nL own b d sb sc) {H : Heap} {locs : List Loc} {lsA : Array Slot} {σ : zM} {g k n pc : Nat} {i : Int32} {rest : List Value} (hH : zHp E σ H) (hk : zkd k = (1, n)) (hg : g < zNI k) (hi : vp_in i n) (hd : decode b pc = .ok (.iaload, 1))
    (kk : W p l e R s m args below meth c H locs cells slots Q (F0 m (pc + 1) lsA (.int (σ.1 g k i.toNatClampNeg) :: rest))) : W p l e R s m args below meth c H locs cells slots Q (F0 m pc lsA (.int i :: .ref (E.1 g k) :: rest)) := by
  have hlt : i.toNatClampNeg < n := Nat.not_le.mp fun q => hi (Or.inr q)
  exact W.iald (v := .int (σ.1 g k i.toNatClampNeg)) hx.1 hx.2.1 (hH.arr1 hk hg) (hx.k.2.1 n (fun j => .int (σ.1 g k j))) (fun q => by cases q) (by show ¬ (i < 0 ∨ (arrV _ _ _).slots.size ≤ _); rw [arrV_size]; exact hi) (by rw [arrV_read _ _ hlt]) rfl rfl hd kk
theorem zm_lald (hx : zCx p R s m args c cells slots E A nL own b d sb sc) {H : Heap} {locs : List Loc} {lsA : Array Slot} {σ : zM} {g k n pc : Nat} {i : Int32} {rest : List Value} (hH : zHp E σ H) (hk : zkd k = (2, n)) (hg : g < zNI k) (hi : vp_in i n) (hd : decode b pc = .ok (.laload, 1))
    (kk : W p l e R s m args below meth c H locs cells slots Q (F0 m (pc + 1) lsA (.long (σ.2 g k i.toNatClampNeg) :: rest))) : W p l e R s m args below meth c H locs cells slots Q (F0 m pc lsA (.int i :: .ref (E.1 g k) :: rest)) := by
  have hlt : i.toNatClampNeg < n := Nat.not_le.mp fun q => hi (Or.inr q)
  exact W.lald (v := .long (σ.2 g k i.toNatClampNeg)) hx.1 hx.2.1 (hH.arr2 hk hg) (hx.k.2.2.1 n (fun j => .long (σ.2 g k j))) (fun q => by cases q) (by show ¬ (i < 0 ∨ (arrV _ _ _).slots.size ≤ _); rw [arrV_size]; exact hi) (by rw [arrV_read _ _ hlt]) rfl rfl hd kk
theorem zm_aald (hx : zCx p R s m args c cells slots E A nL own b d sb sc) {H : Heap} {locs : List Loc} {lsA : Array Slot} {σ : zM} {g k t n pc : Nat} {i : Int32} {rest : List Value} (hH : zHp E σ H) (hk : zkd k = (t, n)) (ht : t = 3 ∨ t = 4) (hg : g < zNI k) (hi : vp_in i n) (hd : decode b pc = .ok (.aaload, 1))
    (kk : W p l e R s m args below meth c H locs cells slots Q (F0 m (pc + 1) lsA (.ref (E.1 i.toNatClampNeg (k + 1)) :: rest))) : W p l e R s m args below meth c H locs cells slots Q (F0 m pc lsA (.int i :: .ref (E.1 g k) :: rest)) := by
  have hlt : i.toNatClampNeg < n := Nat.not_le.mp fun q => hi (Or.inr q)
  rcases ht with rfl | rfl
  · exact W.aald (v := .ref (E.1 i.toNatClampNeg (k + 1))) (ty := .array .int) hx.1 hx.2.1 (hH.arr3 hk hg) (hx.k.2.2.2.1 n (fun j => .ref (E.1 j (k + 1)))) rfl (fun q => by cases q) (by show ¬ (i < 0 ∨ (arrV _ _ _).slots.size ≤ _); rw [arrV_size]; exact hi) (by rw [arrV_read _ _ hlt]) rfl rfl hd kk
  · exact W.aald (v := .ref (E.1 i.toNatClampNeg (k + 1))) (ty := .array .long) hx.1 hx.2.1 (hH.arr4 hk hg) (hx.k.2.2.2.2.1 n (fun j => .ref (E.1 j (k + 1)))) rfl (fun q => by cases q) (by show ¬ (i < 0 ∨ (arrV _ _ _).slots.size ≤ _); rw [arrV_size]; exact hi) (by rw [arrV_read _ _ hlt]) rfl rfl hd kk
theorem zm_iast (hx : zCx p R s m args c cells slots E A nL own b d sb sc) {H : Heap} {locs : List Loc} {lsA : Array Slot} {σ : zM} {g k n pc : Nat} {i x : Int32} {rest : List Value} (hH : zHp E σ H) (hk : zkd k = (1, n)) (hg : g < zNI k) (hi : vp_in i n) (hS0 : va_S A s.heap H locs) (hd : decode b pc = .ok (.iastore, 1))
    (kk : ∀ (H1 : Heap) (locs1 : List Loc), zHp E (zwI σ g k i.toNatClampNeg x) H1 → H1.size = H.size → va_S A s.heap H1 locs1 → W p l e R s m args below meth c H1 locs1 cells slots Q (F0 m (pc + 1) lsA rest)) : W p l e R s m args below meth c H locs cells slots Q (F0 m pc lsA (.int x :: .int i :: .ref (E.1 g k) :: rest)) := by
  refine W.iast hx.1 hx.2.1 (hH.arr1 hk hg) (hx.k.2.1 n (fun j => .int (σ.1 g k j))) (fun q => by cases q) (by show ¬ (i < 0 ∨ (arrV _ _ _).slots.size ≤ _); rw [arrV_size]; exact hi) rfl rfl hd fun H1 e1 e2 e3 => ?_
  refine kk H1 _ (hH.upd hx.inj hg ?_ e3 (fun g' k' j' q => zwI_ne q) (fun g' k' j' _ => rfl)) e2 (hS0.put e2 e3 (hx.sub _ ⟨g, k, hg, rfl⟩))
  unfold zAt
  rw [hk]
  show H1[E.1 g k]? = _
  rw [e1, arrV_store]
  congr 2
  funext q
  unfold updV
  by_cases hq : q = i.toNatClampNeg
  · subst hq
    show _ = Value.int (if _ then x else _)
    rw [if_pos rfl, if_pos ⟨rfl, rfl, rfl⟩]
  · show _ = Value.int (if _ then x else _)
    rw [if_neg hq, if_neg fun z => hq z.2.2]
theorem zm_last (hx : zCx p R s m args c cells slots E A nL own b d sb sc) {H : Heap} {locs : List Loc} {lsA : Array Slot} {σ : zM} {g k n pc : Nat} {i : Int32} {x : Int64} {rest : List Value} (hH : zHp E σ H) (hk : zkd k = (2, n)) (hg : g < zNI k) (hi : vp_in i n) (hS0 : va_S A s.heap H locs) (hd : decode b pc = .ok (.lastore, 1))
    (kk : ∀ (H1 : Heap) (locs1 : List Loc), zHp E (zwL σ g k i.toNatClampNeg x) H1 → H1.size = H.size → va_S A s.heap H1 locs1 → W p l e R s m args below meth c H1 locs1 cells slots Q (F0 m (pc + 1) lsA rest)) : W p l e R s m args below meth c H locs cells slots Q (F0 m pc lsA (.long x :: .int i :: .ref (E.1 g k) :: rest)) := by
  refine W.last hx.1 hx.2.1 (hH.arr2 hk hg) (hx.k.2.2.1 n (fun j => .long (σ.2 g k j))) (fun q => by cases q) (by show ¬ (i < 0 ∨ (arrV _ _ _).slots.size ≤ _); rw [arrV_size]; exact hi) rfl rfl hd fun H1 e1 e2 e3 => ?_
  refine kk H1 _ (hH.upd hx.inj hg ?_ e3 (fun g' k' j' _ => rfl) (fun g' k' j' q => zwL_ne q)) e2 (hS0.put e2 e3 (hx.sub _ ⟨g, k, hg, rfl⟩))
  unfold zAt
  rw [hk]
  show H1[E.1 g k]? = _
  rw [e1, arrV_store]
  congr 2
  funext q
  unfold updV
  by_cases hq : q = i.toNatClampNeg
  · subst hq
    show _ = Value.long (if _ then x else _)
    rw [if_pos rfl, if_pos ⟨rfl, rfl, rfl⟩]
  · show _ = Value.long (if _ then x else _)
    rw [if_neg hq, if_neg fun z => hq z.2.2]
end ZMM
end
section
theorem zpop_s : ∀ {n : Nat} {st acc as rest : List zV}, zpop n st acc = some (as, rest) → ∃ t, t.length = n ∧ st = t ++ rest ∧ as = t.reverse ++ acc
  | 0, st, acc, as, rest, h => by cases h; exact ⟨[], rfl, rfl, rfl⟩
  | n + 1, [], acc, as, rest, h => by cases h
  | n + 1, v :: st, acc, as, rest, h => by
    obtain ⟨t, h1, h2, h3⟩ := zpop_s (n := n) (st := st) (acc := v :: acc) h
    exact ⟨v :: t, by simp [h1], by simp [h2], by simp [h3]⟩
theorem zsz_le {E : zEn} (hE : E.2.2.2.category = 1) : ∀ (l : List zV), ((l.map (zvv E)).map fun v => v.category).sum ≤ zsz l
  | [] => Nat.le_refl _
  | .inl x :: r => by
    have := zsz_le hE r
    simp only [List.map_cons, List.sum_cons, zsz]
    show 1 + _ ≤ _
    omega
  | .inr (.inl x) :: r => by
    have := zsz_le hE r
    simp only [List.map_cons, List.sum_cons, zsz]
    show 2 + _ ≤ _
    omega
  | .inr (.inr x) :: r => by
    have := zsz_le hE r
    simp only [List.map_cons, List.sum_cons, zsz, zcat hE x]
    omega
theorem zgood {q : MethodName × ByteArray × Nat × Option FieldType} (h : Cond.code q.1 q.2.1 q.2.2.1 q.2.2.2 ∈ zGW) : GoodIn zGW (Cond.code q.1 q.2.1 q.2.2.1 q.2.2.2 :: zGW) := by
  intro w hw
  have hm : w ∈ zGW := (List.mem_cons.mp hw).elim (fun e => e ▸ h) id
  exact ⟨hm, good_of_word (List.mem_filter.mp hm).2⟩
theorem zPc_blind (E : zEn) (as : List zV) (σ : zM) : FrameBlind (zPc E as σ) := by
  intro a U g mk h
  obtain ⟨h1, h2, h3, h4, h5⟩ := h
  exact ⟨h1, h2, h3, h4.same (u := U) (U := U.calling g mk a) rfl, h5.same (u := U) (U := U.calling g mk a) rfl⟩
section ZCL
variable {p : Program} {l : Launch} {e : Env} {R : Room} {s : State} {m : MethodId} {args : Array Value} {below : List Frame} {meth : Method} {c : Code} {cells slots : Nat} {Q : State → Prop} {E : zEn} {A : Nat → Prop} {N nL : Nat} {sb : Bool} {sc : zM → Prop} {own d rk : Nat} {b : ByteArray} {C : zC} {K : zKt} {r : Int32 × Int64 × zM}
theorem zm_ret {H : Heap} {locs : List Loc} {lsA : Array Slot} {pc rkj : Nat} {st0 rest : List Value} {a : Array Value} {r1 : Int32 × Int64 × zM} (hr : va_Run p l e R s m args below meth c H locs cells slots 0 0 (F0 m pc lsA st0) rest (zQc E rkj r1 a) (zA E)) (hS : va_S A s.heap H locs) (hA : ∀ q, zA E q → A q)
    (kk : ∀ (H1 : Heap) (locs1 : List Loc), zHp E r1.2.2 H1 → H1.size = H.size → va_S A s.heap H1 locs1 → W p l e R s m args below meth c H1 locs1 cells slots Q (F0 m (pc + 3) lsA ((zrv rkj r1).toList ++ rest))) : W p l e R s m args below meth c H locs cells slots Q (F0 m pc lsA st0) := by
  intro T hT X
  obtain ⟨v, st₀, t, T', L, h0, X', hL, e1, e2, ⟨hv, hp, hz, hk⟩, st⟩ := hr T hT X
  cases hv
  rw [h0] at hz hk
  obtain ⟨t2, a1, b1⟩ := kk T'.heap (locs ++ L) (by rw [e1]; exact hp) (by rw [e1]; exact hz)
    ⟨by rw [e1, hz]; exact hS.1, fun q h1 h2 => by rw [e1, hk q (Nat.lt_of_lt_of_le h1 hS.1) (fun z => h2 (hA q z))]; exact hS.2.1 q h1 h2, fun q hq => by
      rcases List.mem_append.mp hq with h | h
      · exact hS.2.2 q h
      · exact hA _ (hL q h)⟩ T' rfl X'
  exact ⟨t2, st t2 a1, b1⟩
theorem zm_pre (hx : zCx p R s m args c cells slots E A nL own b d sb sc) {H : Heap} {locs : List Loc} {σ : zM} {as : List zV} (hH : zHp E σ H) (hS : va_S A s.heap H locs) : ∀ U : State, U.heap = H → s.WarmedH U.vm → zPc E as σ (as.map (zvv E)).toArray U := by
  intro U hU hW
  have ht : zTx E (zA E) s H := (hx.tx.kept hS.2.1).narrow hx.sub
  refine ⟨rfl, by rw [hU]; exact hH, hx.inj, hx.k.moved hW, ?_⟩
  rw [hU]
  exact ht.moved hW
theorem zm_static (hx : zCx p R s m args c cells slots E A nL own b d sb sc) {H : Heap} {locs : List Loc} {lsA : Array Slot} {pc i rkj : Nat} {q : MethodName × ByteArray × Nat × Option FieldType} {as : List zV} {rest : List zV} {σ : zM} {r1 : Int32 × Int64 × zM}
    (hM : zMt l E d q rkj as σ r1) (hq1 : Cond.code q.1 q.2.1 q.2.2.1 q.2.2.2 ∈ zGW) (hq2 : Cond.initialized q.1.cls ∈ zGW) (hq3 : q.2.2.1 ≤ 41) (hq4 : q.1.cls ≠ "java/lang/invoke/MethodHandle" ∧ q.1.cls ≠ "java/lang/invoke/VarHandle")
    (hl : Cond.methodLink (zcn own) i q.1 ∈ zGW ∨ ∃ host, (zcn own, i, q.1, host) ∈ zNest) (hst : Cond.static q.1 ∈ zGW) (hn : (parseMethodDescriptor q.1.desc).map (fun d => d.parameters.length) = some as.length) (hsz : zsz rest ≤ 8) (hsl : lsA.size = nL)
    (hH : zHp E σ H) (hS : va_S A s.heap H locs) (hd : decode b pc = .ok (.invokestatic i, 3))
    (kk : ∀ (H1 : Heap) (locs1 : List Loc), zHp E r1.2.2 H1 → H1.size = H.size → va_S A s.heap H1 locs1 → W p l e R s m args below meth c H1 locs1 cells slots Q (F0 m (pc + 3) lsA ((zrv rkj r1).toList ++ rest.map (zvv E)))) : W p l e R s m args below meth c H locs cells slots Q (F0 m pc lsA ((as.map (zvv E)).reverse ++ rest.map (zvv E))) := by
  have hR := hx.room
  have hroom : (zRm d).frames + 1 ≤ R.frames ∧ 8 + (q.2.2.1 + 11) + (zRm d).locals ≤ R.locals := ⟨hR.1, by show 8 + (q.2.2.1 + 11) + 60 * d ≤ _; omega⟩
  have hW : 2 * (F0 m pc lsA ((as.map (zvv E)).reverse ++ rest.map (zvv E))).monitorRoom + ((rest.map (zvv E)).map fun v => v.category).sum ≤ 8 := lv_room (Nat.le_trans (zsz_le hx.cat rest) hsz)
  have hts : ∀ w ∈ zGW, w.before args s = true := fun w h => hx.wd h
  rcases hl with hl | ⟨host, hl⟩
  · refine zm_ret (va_runS (As := as.map (zvv E)) (rest := rest.map (zvv E)) (n := as.length) ⟨hx.1, hx.2.1, hx.2.2.1, hx.ow, hts⟩ hM ⟨callB_of as.length hts (zgood hq1) rfl rfl rfl (hx.wd hq2) (hx.wd hl) ⟨hq4.1, hq4.2, hn⟩ hroom, hx.wd hst⟩ ⟨zPc_blind E as σ, zm_pre hx hH hS⟩ rfl (by simp) hsl rfl hW hd ⟨hR.2.2.1, hR.2.2.2⟩) hS hx.sub kk
  · refine zm_ret (va_runSN (As := as.map (zvv E)) (rest := rest.map (zvv E)) (n := as.length) ⟨hx.1, hx.2.1, hx.2.2.1, hx.ow, hts⟩ hM ⟨va_cnB as.length hts (zgood hq1) rfl rfl rfl (hx.k.2.2.2.2.2 _ hl) (hx.wd hq2) ⟨hq4.1, hq4.2, hn⟩ hroom, hx.wd hst, trivial⟩ ⟨zPc_blind E as σ, zm_pre hx hH hS⟩ rfl (by simp) hsl rfl hW hd ⟨hR.2.2.1, hR.2.2.2⟩) hS hx.sub kk
theorem zm_virtual (hx : zCx p R s m args c cells slots E A nL own b d sb sc) {H : Heap} {locs : List Loc} {lsA : Array Slot} {pc i rkj g k : Nat} {q : MethodName × ByteArray × Nat × Option FieldType} {as : List zV} {rest : List zV} {σ : zM} {r1 : Int32 × Int64 × zM} {Cn : String}
    (hM : zMt l E d q rkj (.inr (.inr (g, k)) :: as) σ r1) (hq1 : Cond.code q.1 q.2.1 q.2.2.1 q.2.2.2 ∈ zGW) (hq2 : Cond.initialized q.1.cls ∈ zGW) (hq3 : q.2.2.1 ≤ 41) (hq4 : q.1.cls ≠ "java/lang/invoke/MethodHandle" ∧ q.1.cls ≠ "java/lang/invoke/VarHandle")
    (hl : Cond.methodLink (zcn own) i q.1 ∈ zGW) (hst : Cond.instanceMethod q.1 ∈ zGW) (hse : Cond.selects Cn q.1 q.1 ∈ zGW) (hn : (parseMethodDescriptor q.1.desc).map (fun d => d.parameters.length) = some as.length) (hsz : zsz rest ≤ 8) (hsl : lsA.size = nL) (h9 : Nat.beq k 99 = false)
    (hrec : ∃ cellB : Cell, H[E.1 g k]? = some cellB ∧ cellB.vm.isStatics = false ∧ s.vm.findClass Cn = some cellB.cls)
    (hH : zHp E σ H) (hS : va_S A s.heap H locs) (hd : decode b pc = .ok (.invokevirtual i, 3))
    (kk : ∀ (H1 : Heap) (locs1 : List Loc), zHp E r1.2.2 H1 → H1.size = H.size → va_S A s.heap H1 locs1 → W p l e R s m args below meth c H1 locs1 cells slots Q (F0 m (pc + 3) lsA ((zrv rkj r1).toList ++ rest.map (zvv E)))) : W p l e R s m args below meth c H locs cells slots Q (F0 m pc lsA ((as.map (zvv E)).reverse ++ .ref (E.1 g k) :: rest.map (zvv E))) := by
  have hR := hx.room
  have hroom : (zRm d).frames + 1 ≤ R.frames ∧ 8 + (q.2.2.1 + 11) + (zRm d).locals ≤ R.locals := ⟨hR.1, by show 8 + (q.2.2.1 + 11) + 60 * d ≤ _; omega⟩
  have hW : 2 * (F0 m pc lsA ((as.map (zvv E)).reverse ++ .ref (E.1 g k) :: rest.map (zvv E))).monitorRoom + ((rest.map (zvv E)).map fun v => v.category).sum ≤ 8 := lv_room (Nat.le_trans (zsz_le hx.cat rest) hsz)
  have hts : ∀ w ∈ zGW, w.before args s = true := fun w h => hx.wd h
  have hpre : ∀ U : State, U.heap = H → s.WarmedH U.vm → zPc E (.inr (.inr (g, k)) :: as) σ (Value.ref (E.1 g k) :: as.map (zvv E)).toArray U := by
    have := zm_pre hx hH hS (as := .inr (.inr (g, k)) :: as)
    rw [List.map_cons, zvv_ref h9] at this
    exact this
  exact zm_ret (va_runV (C := Cn) (As := as.map (zvv E)) (rest := rest.map (zvv E)) (n := as.length) ⟨hx.1, hx.2.1, hx.2.2.1, hx.ow, hts⟩ hM ⟨callB_of as.length hts (zgood hq1) rfl rfl rfl (hx.wd hq2) (hx.wd hl) ⟨hq4.1, hq4.2, hn⟩ hroom, hx.wd hst, hx.wd hse⟩ ⟨zPc_blind E _ σ, hrec, hpre⟩ rfl (by simp) hsl rfl hW hd ⟨hR.2.2.1, hR.2.2.2⟩) hS hx.sub kk
/-- an object of ours is of its class -/
theorem zm_recv (hx : zCx p R s m args c cells slots E A nL own b d sb sc) {H : Heap} {σ : zM} {g k ci : Nat} (hH : zHp E σ H) (hk : zkd k = (0, ci)) (hg : g < zNI k) : ∃ cellB : Cell, H[E.1 g k]? = some cellB ∧ cellB.vm.isStatics = false ∧ s.vm.findClass (zcn ci) = some cellB.cls := by
  obtain ⟨cell, q1, q2, q3, q4⟩ := hH.obj hk hg
  obtain ⟨hS, hfc, -⟩ := hx.k.1 ci _ (zCl_at (zkd_cls hk))
  exact ⟨cell, q1, by rw [q3]; rfl, by rw [q2]; exact hfc⟩
theorem zm_recvS (hx : zCx p R s m args c cells slots E A nL own b d sb sc) {H : Heap} {locs : List Loc} {g : Nat} (hS : va_S A s.heap H locs) (hg : g < 18) : ∃ cellB : Cell, H[E.1 g 95]? = some cellB ∧ cellB.vm.isStatics = false ∧ s.vm.findClass "java/lang/String" = some cellB.cls := by
  obtain ⟨cell, q1, q2, q3, -⟩ := ((hx.tx.1.1 g hg).1).kept hS.2.1
  exact ⟨cell, q1, q2, q3⟩
/-- System.arraycopy -/
theorem zm_copy (hx : zCx p R s m args c cells slots E A nL own b d sb sc) {H : Heap} {locs : List Loc} {lsA : Array Slot} {pc i : Nat} {σ : zM} {g k g2 k2 n0 n1 : Nat} {sp dp n : Int32} {rest : List zV}
    (hk : zkd k = (1, n0)) (hk2 : zkd k2 = (1, n1)) (hg : g < zNI k) (hg2 : g2 < zNI k2) (h1 : ¬ sp < 0) (h2 : ¬ dp < 0) (h3 : ¬ n < 0) (h4 : sp.toNatClampNeg + n.toNatClampNeg ≤ n0) (h5 : dp.toNatClampNeg + n.toNatClampNeg ≤ n1)
    (hl : Cond.methodLink (zcn own) i arraycopyName ∈ zGW) (hsz : zsz rest ≤ 8) (hsl : lsA.size = nL) (hH : zHp E σ H) (hS : va_S A s.heap H locs) (hd : decode b pc = .ok (.invokestatic i, 3))
    (kk : ∀ (H1 : Heap) (locs1 : List Loc), zHp E (zcop σ g k sp.toNatClampNeg g2 k2 dp.toNatClampNeg n.toNatClampNeg) H1 → H1.size = H.size → va_S A s.heap H1 locs1 → W p l e R s m args below meth c H1 locs1 cells slots Q (F0 m (pc + 3) lsA (rest.map (zvv E)))) : W p l e R s m args below meth c H locs cells slots Q (F0 m pc lsA (.int n :: .int dp :: .ref (E.1 g2 k2) :: .int sp :: .ref (E.1 g k) :: rest.map (zvv E))) := by
  have nn : ∀ z : Int32, ¬ z < 0 → z.toInt = (z.toNatClampNeg : Int) := by
    intro z hz
    have hz0 : (0 : Int) ≤ z.toInt := by
      have := Int32.not_lt.mp hz
      simpa using Int32.le_iff_toInt_le.mp this
    show z.toInt = ((z.toInt.toNat : Nat) : Int)
    omega
  have hR := hx.room
  have hc0 := hH.arr1 hk hg
  have hc1 := hH.arr1 hk2 hg2
  intro T hT X
  obtain ⟨-, k0, hk0, cm0, hkk0⟩ := hx.k.2.1 n0 (fun j => .int (σ.1 g k j))
  obtain ⟨-, k1, hk1, cm1, hkk1⟩ := hx.k.2.1 n1 (fun j => .int (σ.1 g2 k2 j))
  obtain ⟨vm', X', step⟩ := X.arraycopy hx.1 hx.ow (hx.wd hl) (hx.wd zmw_nat) (hx.wd zmw_stat) (hx.wd zmw_sys) (src := E.1 g k) (dst := E.1 g2 k2) (cs := arrV (E.2.1 1) n0 fun j => .int (σ.1 g k j)) (cd := arrV (E.2.1 1) n1 fun j => .int (σ.1 g2 k2 j)) (srcPos := sp) (destPos := dp) (n := n) (by rw [hT]; exact hc0) (by rw [hT]; exact hc1)
    (fun _ h => by cases h) (fun _ h => by cases h) (fun h => by cases h) (fun h => by cases h) hk0 hk1 hkk0 hkk1 (by simp [refKind]) h1 h2 h3
    (by rw [nn sp h1, nn n h3, arrV_size]; omega)
    (by rw [nn dp h2, nn n h3, arrV_size]; omega)
    (fun vm₁ _ j hj => by
      have e : (arrV (E.2.1 1) n0 fun j => .int (σ.1 g k j)).slots.getD (sp.toNatClampNeg + j) .null = .int (σ.1 g k (sp.toNatClampNeg + j)) := by
        rw [Array.getD_eq_getD_getElem?, arrV_read _ _ (by omega)]
        rfl
      refine ⟨?_, ?_⟩
      · rw [e]
        rfl
      · rw [e]
        exact trivial)
    (g := F0 m pc lsA (.int n :: .int dp :: .ref (E.1 g2 k2) :: .int sp :: .ref (E.1 g k) :: rest.map (zvv E))) rfl (by rw [hx.2.2.1]; exact hsl) (rest := rest.map (zvv E)) rfl (by rw [hx.2.1]; exact hd) (by omega) (by
      have := Nat.le_trans (zsz_le hx.cat rest) hsz
      have hw : nativeFrameWords "java/lang/System" "arraycopy" 5 + 11 ≤ 52 := by decide +kernel
      show 2 * 0 + _ + _ ≤ _
      omega)
  have e1 : copied (arrV (E.2.1 1) n0 fun j => .int (σ.1 g k j)) (arrV (E.2.1 1) n1 fun j => .int (σ.1 g2 k2 j)) sp dp n = arrV (E.2.1 1) n1 fun j => .int (va_cpy (σ.1 g k) (σ.1 g2 k2) sp.toNatClampNeg dp.toNatClampNeg n.toNatClampNeg j) := va_copied (fun z => .int z) _ _ (σ.1 g k) (σ.1 g2 k2) h4
  rw [e1] at X' step
  have hl : E.1 g2 k2 < H.size := (Array.getElem?_eq_some_iff.mp hc1).1
  have hheap : ((T.setVm vm').setCell (E.1 g2 k2) (arrV (E.2.1 1) n1 fun j => .int (va_cpy (σ.1 g k) (σ.1 g2 k2) sp.toNatClampNeg dp.toNatClampNeg n.toNatClampNeg j))).heap = H.setIfInBounds (E.1 g2 k2) (arrV (E.2.1 1) n1 fun j => .int (va_cpy (σ.1 g k) (σ.1 g2 k2) sp.toNatClampNeg dp.toNatClampNeg n.toNatClampNeg j)) := by rw [← hT]; rfl
  have oq : ∀ q : Nat, q ≠ E.1 g2 k2 → (H.setIfInBounds (E.1 g2 k2) (arrV (E.2.1 1) n1 fun j => .int (va_cpy (σ.1 g k) (σ.1 g2 k2) sp.toNatClampNeg dp.toNatClampNeg n.toNatClampNeg j)))[q]? = H[q]? := fun q hq => by simp [Array.getElem?_setIfInBounds, Ne.symm hq]
  have hAA := hx.sub _ ⟨g2, k2, hg2, rfl⟩
  obtain ⟨t, a1, b1⟩ := kk _ _ (hH.upd (σ' := zcop σ g k sp.toNatClampNeg g2 k2 dp.toNatClampNeg n.toNatClampNeg) hx.inj hg2 (by
      unfold zAt
      rw [hk2]
      show (H.setIfInBounds (E.1 g2 k2) _)[E.1 g2 k2]? = some _
      rw [Array.getElem?_setIfInBounds, if_pos rfl, if_pos hl]
      congr 2
      funext j
      show Value.int (if _ then _ else _) = Value.int (if _ then _ else _)
      by_cases hj : dp.toNatClampNeg ≤ j ∧ j < dp.toNatClampNeg + n.toNatClampNeg
      · rw [if_pos hj, if_pos ⟨rfl, rfl, hj⟩]
      · rw [if_neg hj, if_neg fun z => hj z.2.2]) oq (fun g' k' j q => if_neg fun z => q ⟨z.1, z.2.1⟩) (fun _ _ _ _ => rfl)) (by simp) ⟨by simp; exact hS.1, fun q g1 g2 => by
      rw [oq q (fun e => g2 (by rw [e]; exact hAA))]
      exact hS.2.1 q g1 g2, fun q hq => by
      rcases List.mem_append.mp hq with h | h
      · exact hS.2.2 q h
      · obtain ⟨z, -, hz⟩ := List.mem_map.mp h
        rw [← hz]
        exact hAA⟩ _ hheap X'
  exact ⟨t, step t a1, b1⟩
end ZCL
end
section
section ZMN
variable {p : Program} {l : Launch} {e : Env} {R : Room} {s : State} {m : MethodId} {args : Array Value} {below : List Frame} {meth : Method} {c : Code} {cells slots : Nat} {Q : State → Prop} {E : zEn} {A : Nat → Prop} {N nL : Nat} {sb : Bool} {sc : zM → Prop} {own d rk : Nat} {b : ByteArray} {C : zC} {K : zKt} {r : Int32 × Int64 × zM}
theorem zs_getfield {pc nx tg i : Nat} {cc : Int32} {dd : Int64} {sw mk} {ls : zL} {st : List zV} {σ : zM} (hx : zCx p R s m args c cells slots E A nL own b d sb sc) (ih : zIH p l e R s m args below meth c cells slots Q E A N nL sb sc K r) (hc : zck b own nL (pc, (.getfield i, nx, tg, cc, dd, sw, mk)) = true) (h : zop C own rk K ls st σ (.getfield i, nx, tg, cc, dd, sw, mk) = some r) : zX p l e R s m args below meth c cells slots Q E A N nL sb sc pc ls st σ := by
  obtain ⟨hd, h1⟩ := zck_s hc
  obtain ⟨rfl, hd⟩ := znx (n := 3) hd (by simpa [zck1] using h1)
  obtain ⟨g, k, t, rfl, g1⟩ := zr1_s h
  cases hf : zfd own i with
  | none => rw [hf] at g1; cases g1
  | some q =>
    obtain ⟨ci, j⟩ := q
    rw [hf] at g1
    dsimp only at g1
    intro H locs lsA hH hsc hN hS hL hl hs
    rcases hk : zkd k with ⟨t1, n⟩
    rw [hk] at g1
    split at g1
    · rename_i n' heq
      cases heq
      obtain ⟨hb, g9⟩ := zcb_some g1
      clear g1
      have := Nat.eq_of_beq_eq_true hb
      subst this
      have hg := zok_obj (hs _ List.mem_cons_self) hk (by omega)
      rw [List.map_cons, zvv_ref (zkd_ne99 hk (by omega))]
      refine zm_get hx hH hk hg hf hd ?_
      cases hz : zed k j with
      | none =>
        rw [hz] at g9
        have h2 := ih _ _ _ _ g9 H locs lsA hH hsc hN hS hL hl (zoc trivial (zot hs))
        have e1 : zFv E σ g k j = .int (σ.1 g k j) := by unfold zFv; rw [hz]
        rw [e1]
        exact h2
      | some q2 =>
        obtain ⟨go, k2⟩ := q2
        rw [hz] at g9
        obtain ⟨a1, a2, a3⟩ := zed_ok hk hz hg rfl
        rcases hk2 : zkd k2 with ⟨t2, n2⟩
        rw [hk2] at a2
        cases go with
        | none =>
          have h2 := ih _ _ _ _ g9 H locs lsA hH hsc hN hS hL hl (zoc (zok_ref hk2 a2 a1) (zot hs))
          rw [List.map_cons, zvv_ref a3] at h2
          have e1 : zFv E σ g k j = .ref (E.1 g k2) := by unfold zFv; rw [hz]
          rw [e1]
          exact h2
        | some g2 =>
          have h2 := ih _ _ _ _ g9 H locs lsA hH hsc hN hS hL hl (zoc (zok_ref hk2 a2 a1) (zot hs))
          rw [List.map_cons, zvv_ref a3] at h2
          have e1 : zFv E σ g k j = .ref (E.1 g2 k2) := by unfold zFv; rw [hz]
          rw [e1]
          exact h2
    · rename_i n' heq
      cases heq
      obtain ⟨hb, g9⟩ := zcb_some g1
      clear g1
      have := Nat.eq_of_beq_eq_true hb
      subst this
      have hv := hs _ List.mem_cons_self
      unfold zokv at hv
      simp only [hk] at hv
      obtain ⟨hg, rfl⟩ := hv
      obtain ⟨hw, -, hj⟩ := zFok_all own _ (zfa_mem hf)
      have hj : j < 2 := by
        rcases hj with hj | hj | hj
        · exact absurd hj (by simp)
        · exact hj.2
        · exact absurd hj.1 (by simp)
      rw [List.map_cons, zvv_ref rfl]
      have htx := hx.tx.1.1 g hg
      have hj' : j = 0 ∨ j = 1 := by omega
      rcases hj' with rfl | rfl
      · obtain ⟨cf, kk, fi, f, cell, h1, h2, h3, h4, h5, h6⟩ := htx.2.2.1.kept hS.2.1
        have h7 := ih _ _ _ _ g9 H locs lsA hH hsc hN hS hL hl (zoc (by show zokv sb (.inr (.inr (g, 96))); exact ⟨hg, rfl⟩) (zot hs))
        exact W.getf hx.1 hx.2.1 hx.ow (hx.wd hw) h1 h2 h3 h4 (v := .ref (E.1 g 96)) h5 rfl rfl hd h7
      · obtain ⟨cf, kk, fi, f, cell, h1, h2, h3, h4, h5, h6⟩ := htx.2.1.kept hS.2.1
        have h7 := ih _ _ _ _ g9 H locs lsA hH hsc hN hS hL hl (zoc trivial (zot hs))
        exact W.getf hx.1 hx.2.1 hx.ow (hx.wd hw) h1 h2 h3 h4 (v := .int 0) h5 rfl rfl hd h7
    · cases g1
theorem zs_putfield {pc nx tg i : Nat} {cc : Int32} {dd : Int64} {sw mk} {ls : zL} {st : List zV} {σ : zM} (hx : zCx p R s m args c cells slots E A nL own b d sb sc) (hSC : zSC sc) (ih : zIH p l e R s m args below meth c cells slots Q E A N nL sb sc K r) (hc : zck b own nL (pc, (.putfield i, nx, tg, cc, dd, sw, mk)) = true) (h : zop C own rk K ls st σ (.putfield i, nx, tg, cc, dd, sw, mk) = some r) : zX p l e R s m args below meth c cells slots Q E A N nL sb sc pc ls st σ := by
  obtain ⟨hd, h1⟩ := zck_s hc
  obtain ⟨rfl, hd⟩ := znx (n := 3) hd (by simpa [zck1] using h1)
  simp only [zop] at h
  split at h
  · rename_i x g k t
    cases hf : zfd own i with
    | none => rw [hf] at h; cases h
    | some q =>
      obtain ⟨ci, j⟩ := q
      rw [hf] at h
      dsimp only at h
      rcases hk : zkd k with ⟨t1, n⟩
      rw [hk] at h
      split at h
      · rename_i n' heq
        cases heq
        obtain ⟨hb, g1⟩ := zcb_some h
        simp only [Bool.and_eq_true] at hb
        have := Nat.eq_of_beq_eq_true hb.1
        subst this
        have hz : zed k j = none := by
          cases hq : zed k j with
          | none => rfl
          | some w => rw [hq] at hb; cases hb.2
        have hgo : (zbl n j = true → x = 0 ∨ x = 1) ∧ K (pc + 3) ls t (zwI σ g k j x) = some r := by
          cases hbl : zbl n j with
          | true =>
            rw [hbl] at g1
            obtain ⟨h01, g1⟩ := zgd_some g1
            exact ⟨fun _ => z01_spec h01, g1⟩
          | false =>
            rw [hbl] at g1
            exact ⟨fun q => (by cases q), g1⟩
        intro H locs lsA hH hsc hN hS hL hl hs
        have hg := zok_obj (hs _ (List.mem_cons_of_mem _ List.mem_cons_self)) hk (by omega)
        show W p l e R s m args below meth c H locs cells slots Q (F0 m pc lsA (.int x :: zvv E (.inr (.inr (g, k))) :: t.map (zvv E)))
        rw [zvv_ref (zkd_ne99 hk (by omega))]
        exact zm_put hx hH hk hg hz hf hgo.1 hS hd fun H1 locs1 a1 a2 a3 => ih _ _ _ _ hgo.2 H1 locs1 lsA a1 (hSC.1 _ _ _ _ _ (by rw [hk]; omega) hsc) (a2.trans hN) a3 hL hl (zot (zot hs))
      · cases h
  · cases h
theorem zs_getstatic {pc nx tg i : Nat} {cc : Int32} {dd : Int64} {sw mk} {ls : zL} {st : List zV} {σ : zM} (hx : zCx p R s m args c cells slots E A nL own b d sb sc) (ih : zIH p l e R s m args below meth c cells slots Q E A N nL sb sc K r) (hc : zck b own nL (pc, (.getstatic i, nx, tg, cc, dd, sw, mk)) = true) (h : zop C own rk K ls st σ (.getstatic i, nx, tg, cc, dd, sw, mk) = some r) : zX p l e R s m args below meth c cells slots Q E A N nL sb sc pc ls st σ := by
  obtain ⟨hd, h1⟩ := zck_s hc
  obtain ⟨rfl, hd⟩ := znx (n := 3) hd (by simpa [zck1] using h1)
  simp only [zop] at h
  intro H locs lsA hH hsc hN hS hL hl hs
  split at h
  · rename_i hf
    obtain ⟨hw, -⟩ := zFok_all own _ (zfa_mem hf)
    exact va_gets hx.1 hx.2.1 hx.tx.2.2.1 hS hx.ow (hx.wd hw) (fun _ q => q) hd (ih _ _ _ _ h H locs lsA hH hsc hN hS hL hl (zoc trivial hs))
  · rename_i hf
    obtain ⟨hw, -⟩ := zFok_all own _ (zfa_mem hf)
    exact va_gets hx.1 hx.2.1 hx.tx.2.2.2.1 hS hx.ow (hx.wd hw) (fun _ q => q) hd (ih _ _ _ _ h H locs lsA hH hsc hN hS hL hl (zoc trivial hs))
  · cases h
theorem znI_cl {n : Nat} (h : n < 2 ^ 31) : (nI n).toNatClampNeg = n := nI_clamp h
theorem zs_iaload {pc nx tg : Nat} {cc : Int32} {dd : Int64} {sw mk} {ls : zL} {st : List zV} {σ : zM} (hx : zCx p R s m args c cells slots E A nL own b d sb sc) (ih : zIH p l e R s m args below meth c cells slots Q E A N nL sb sc K r) (hc : zck b own nL (pc, (.iaload, nx, tg, cc, dd, sw, mk)) = true) (h : zop C own rk K ls st σ (.iaload, nx, tg, cc, dd, sw, mk) = some r) : zX p l e R s m args below meth c cells slots Q E A N nL sb sc pc ls st σ := by
  obtain ⟨hd, h1⟩ := zck_s hc
  obtain ⟨rfl, hd⟩ := znx (n := 1) hd (by simpa [zck1] using h1)
  obtain ⟨i, g, k, t, rfl, g1⟩ := zir_s h
  intro H locs lsA hH hsc hN hS hL hl hs
  rcases hk : zkd k with ⟨t1, n⟩
  rw [hk] at g1
  split at g1
  · rename_i n' heq
    cases heq
    have hg := zok_obj (hs _ (List.mem_cons_of_mem _ List.mem_cons_self)) hk (by omega)
    show W p l e R s m args below meth c H locs cells slots Q (F0 m pc lsA (.int i :: zvv E (.inr (.inr (g, k))) :: t.map (zvv E)))
    rw [zvv_ref (zkd_ne99 hk (by omega))]
    have key : vp_in i n ∧ K (pc + 1) ls (.inl (σ.1 g k i.toNatClampNeg) :: t) σ = some r := by
      cases tg with
      | zero =>
        obtain ⟨hz, g1⟩ := zgd_some g1
        exact ⟨zin_spec hz, g1⟩
      | succ m' =>
        obtain ⟨hz, g1⟩ := zcb_some g1
        simp only [Bool.and_eq_true, decide_eq_true_eq] at hz
        have hm := Nat.blt_eq.mp hz.2
        have := zkd_len hk (by omega) (by omega)
        have hcl : i.toNatClampNeg = m' := by rw [hz.1]; exact nI_clamp (by omega)
        rw [hcl]
        exact ⟨by rw [hz.1]; exact vp_in_nI hm (by omega), g1⟩
    exact zm_iald hx hH hk hg key.1 hd (ih _ _ _ _ key.2 H locs lsA hH hsc hN hS hL hl (zoc trivial (zot (zot hs))))
  · rename_i n' heq
    cases heq
    obtain ⟨hz, g1⟩ := zgd_some g1
    have hv := hs _ (List.mem_cons_of_mem _ List.mem_cons_self)
    unfold zokv at hv
    simp only [hk] at hv
    obtain ⟨hsb, rfl, rfl⟩ := hv
    obtain ⟨L, xs, h32, hX, hbl, hbA, hlen, hxs⟩ := hx.2.2.2.2.2.2.2.2.2.2 σ hsc hsb
    have hz2 := zin_spec hz
    unfold zslen at hz2
    rw [hlen, nI_clamp h32] at hz2
    have hlt : i.toNatClampNeg < L := Nat.not_le.mp fun q => hz2 (Or.inr q)
    rw [hxs _ hlt] at g1
    exact va_sld hx.1 hx.2.1 hX hbl hbA hS hz2 hd (ih _ _ _ _ g1 H locs lsA hH hsc hN hS hL hl (zoc trivial (zot (zot hs))))
  · cases g1
theorem zs_laload {pc nx tg : Nat} {cc : Int32} {dd : Int64} {sw mk} {ls : zL} {st : List zV} {σ : zM} (hx : zCx p R s m args c cells slots E A nL own b d sb sc) (ih : zIH p l e R s m args below meth c cells slots Q E A N nL sb sc K r) (hc : zck b own nL (pc, (.laload, nx, tg, cc, dd, sw, mk)) = true) (h : zop C own rk K ls st σ (.laload, nx, tg, cc, dd, sw, mk) = some r) : zX p l e R s m args below meth c cells slots Q E A N nL sb sc pc ls st σ := by
  obtain ⟨hd, h1⟩ := zck_s hc
  obtain ⟨rfl, hd⟩ := znx (n := 1) hd (by simpa [zck1] using h1)
  obtain ⟨i, g, k, t, rfl, g1⟩ := zir_s h
  intro H locs lsA hH hsc hN hS hL hl hs
  rcases hk : zkd k with ⟨t1, n⟩
  rw [hk] at g1
  split at g1
  · rename_i n' heq
    cases heq
    obtain ⟨hz, g1⟩ := zgd_some g1
    have hg := zok_obj (hs _ (List.mem_cons_of_mem _ List.mem_cons_self)) hk (by omega)
    show W p l e R s m args below meth c H locs cells slots Q (F0 m pc lsA (.int i :: zvv E (.inr (.inr (g, k))) :: t.map (zvv E)))
    rw [zvv_ref (zkd_ne99 hk (by omega))]
    exact zm_lald hx hH hk hg (zin_spec hz) hd (ih _ _ _ _ g1 H locs lsA hH hsc hN hS hL hl (zoc trivial (zot (zot hs))))
  · cases g1
theorem zkd_inner {k t n : Nat} (h : zkd k = (t, n)) (ht : t = 3 ∨ t = 4) : zNI (k + 1) = n ∧ (zkd (k + 1)).1 < 5 ∧ Nat.beq (k + 1) 99 = false := by
  have hall : ∀ k, k < 98 → ((zkd k).1 = 3 ∨ (zkd k).1 = 4) → zNI (k + 1) = (zkd k).2 ∧ (zkd (k + 1)).1 < 5 ∧ Nat.beq (k + 1) 99 = false := by decide +kernel
  have := hall k (zkd_lt h (by omega)) (by rw [h]; exact ht)
  rw [h] at this
  exact this
theorem zs_aaload {pc nx tg : Nat} {cc : Int32} {dd : Int64} {sw mk} {ls : zL} {st : List zV} {σ : zM} (hx : zCx p R s m args c cells slots E A nL own b d sb sc) (ih : zIH p l e R s m args below meth c cells slots Q E A N nL sb sc K r) (hc : zck b own nL (pc, (.aaload, nx, tg, cc, dd, sw, mk)) = true) (h : zop C own rk K ls st σ (.aaload, nx, tg, cc, dd, sw, mk) = some r) : zX p l e R s m args below meth c cells slots Q E A N nL sb sc pc ls st σ := by
  obtain ⟨hd, h1⟩ := zck_s hc
  obtain ⟨rfl, hd⟩ := znx (n := 1) hd (by simpa [zck1] using h1)
  obtain ⟨i, g, k, t, rfl, g1⟩ := zir_s h
  intro H locs lsA hH hsc hN hS hL hl hs
  rcases hk : zkd k with ⟨t1, n⟩
  rw [hk] at g1
  have key : (t1 = 3 ∨ t1 = 4) ∧ zin i n = true ∧ K (pc + 1) ls (.inr (.inr (i.toNatClampNeg, k + 1)) :: t) σ = some r := by
    split at g1
    · rename_i n' heq
      cases heq
      obtain ⟨hz, g1⟩ := zgd_some g1
      exact ⟨Or.inl rfl, hz, g1⟩
    · rename_i n' heq
      cases heq
      obtain ⟨hz, g1⟩ := zgd_some g1
      exact ⟨Or.inr rfl, hz, g1⟩
    · cases g1
  obtain ⟨ht, hz, g1⟩ := key
  have hi := zin_spec hz
  have hlt : i.toNatClampNeg < n := Nat.not_le.mp fun q => hi (Or.inr q)
  obtain ⟨a1, a2, a3⟩ := zkd_inner hk ht
  rcases hk2 : zkd (k + 1) with ⟨t2, n2⟩
  rw [hk2] at a2
  have hg := zok_obj (hs _ (List.mem_cons_of_mem _ List.mem_cons_self)) hk (by omega)
  have h2 := ih _ _ _ _ g1 H locs lsA hH hsc hN hS hL hl (zoc (zok_ref hk2 a2 (by omega)) (zot (zot hs)))
  rw [List.map_cons, zvv_ref a3] at h2
  show W p l e R s m args below meth c H locs cells slots Q (F0 m pc lsA (.int i :: zvv E (.inr (.inr (g, k))) :: t.map (zvv E)))
  rw [zvv_ref (zkd_ne99 hk (by omega))]
  exact zm_aald hx hH hk ht hg hi hd h2
theorem zSL_len {g : Nat} : (zSL.getD g []).length < 2 ^ 31 := by
  have hall : ∀ g, g < 18 → (zSL.getD g []).length < 2 ^ 31 := by decide +kernel
  rcases Nat.lt_or_ge g 18 with h | h
  · exact hall g h
  · rw [List.getD_eq_getElem?_getD, List.getElem?_eq_none (by show zSL.length ≤ g; exact h)]
    decide
theorem zs_baload {pc nx tg : Nat} {cc : Int32} {dd : Int64} {sw mk} {ls : zL} {st : List zV} {σ : zM} (hx : zCx p R s m args c cells slots E A nL own b d sb sc) (ih : zIH p l e R s m args below meth c cells slots Q E A N nL sb sc K r) (hc : zck b own nL (pc, (.baload, nx, tg, cc, dd, sw, mk)) = true) (h : zop C own rk K ls st σ (.baload, nx, tg, cc, dd, sw, mk) = some r) : zX p l e R s m args below meth c cells slots Q E A N nL sb sc pc ls st σ := by
  obtain ⟨hd, h1⟩ := zck_s hc
  obtain ⟨rfl, hd⟩ := znx (n := 1) hd (by simpa [zck1] using h1)
  obtain ⟨i, g, k, t, rfl, g1⟩ := zir_s h
  intro H locs lsA hH hsc hN hS hL hl hs
  rcases hk : zkd k with ⟨t1, n⟩
  rw [hk] at g1
  split at g1
  · rename_i n' heq
    cases heq
    obtain ⟨hz, g1⟩ := zgd_some g1
    have hv := hs _ (List.mem_cons_of_mem _ List.mem_cons_self)
    unfold zokv at hv
    simp only [hk] at hv
    obtain ⟨hg, rfl⟩ := hv
    have hT := (hx.tx.1.1 g hg).2.2.2
    have e1 : (zSL.map List.length).getD g 0 = (zSL.getD g []).length := by
      rw [List.getD_eq_getElem?_getD, List.getElem?_map, List.getD_eq_getElem?_getD]
      cases zSL[g]? <;> rfl
    rw [e1] at hT
    exact va_tb hx.1 hx.2.1 hT hS (zin_spec hz) rfl hd (ih _ _ _ _ g1 H locs lsA hH hsc hN hS hL hl (zoc trivial (zot (zot hs))))
  · cases g1
theorem zs_iastore {pc nx tg : Nat} {cc : Int32} {dd : Int64} {sw mk} {ls : zL} {st : List zV} {σ : zM} (hx : zCx p R s m args c cells slots E A nL own b d sb sc) (hSC : zSC sc) (ih : zIH p l e R s m args below meth c cells slots Q E A N nL sb sc K r) (hc : zck b own nL (pc, (.iastore, nx, tg, cc, dd, sw, mk)) = true) (h : zop C own rk K ls st σ (.iastore, nx, tg, cc, dd, sw, mk) = some r) : zX p l e R s m args below meth c cells slots Q E A N nL sb sc pc ls st σ := by
  obtain ⟨hd, h1⟩ := zck_s hc
  obtain ⟨rfl, hd⟩ := znx (n := 1) hd (by simpa [zck1] using h1)
  obtain ⟨v, i, g, k, t, rfl, g1⟩ := ziir_s h
  intro H locs lsA hH hsc hN hS hL hl hs
  rcases hk : zkd k with ⟨t1, n⟩
  rw [hk] at g1
  split at g1
  · rename_i n' heq
    cases heq
    have hg := zok_obj (hs _ (List.mem_cons_of_mem _ (List.mem_cons_of_mem _ List.mem_cons_self))) hk (by omega)
    show W p l e R s m args below meth c H locs cells slots Q (F0 m pc lsA (.int v :: .int i :: zvv E (.inr (.inr (g, k))) :: t.map (zvv E)))
    rw [zvv_ref (zkd_ne99 hk (by omega))]
    have key : vp_in i n ∧ K (pc + 1) ls t (zwI σ g k i.toNatClampNeg v) = some r := by
      cases tg with
      | zero =>
        obtain ⟨hz, g1⟩ := zgd_some g1
        exact ⟨zin_spec hz, g1⟩
      | succ m' =>
        obtain ⟨hz, g1⟩ := zcb_some g1
        simp only [Bool.and_eq_true, decide_eq_true_eq] at hz
        have hm := Nat.blt_eq.mp hz.2
        have := zkd_len hk (by omega) (by omega)
        have hcl : i.toNatClampNeg = m' := by rw [hz.1]; exact nI_clamp (by omega)
        rw [hcl]
        exact ⟨by rw [hz.1]; exact vp_in_nI hm (by omega), g1⟩
    exact zm_iast hx hH hk hg key.1 hS hd fun H1 locs1 a1 a2 a3 => ih _ _ _ _ key.2 H1 locs1 lsA a1 (hSC.1 _ _ _ _ _ (by rw [hk]; omega) hsc) (a2.trans hN) a3 hL hl (zot (zot (zot hs)))
  · cases g1
theorem zs_lastore {pc nx tg : Nat} {cc : Int32} {dd : Int64} {sw mk} {ls : zL} {st : List zV} {σ : zM} (hx : zCx p R s m args c cells slots E A nL own b d sb sc) (hSC : zSC sc) (ih : zIH p l e R s m args below meth c cells slots Q E A N nL sb sc K r) (hc : zck b own nL (pc, (.lastore, nx, tg, cc, dd, sw, mk)) = true) (h : zop C own rk K ls st σ (.lastore, nx, tg, cc, dd, sw, mk) = some r) : zX p l e R s m args below meth c cells slots Q E A N nL sb sc pc ls st σ := by
  obtain ⟨hd, h1⟩ := zck_s hc
  obtain ⟨rfl, hd⟩ := znx (n := 1) hd (by simpa [zck1] using h1)
  obtain ⟨v, i, g, k, t, rfl, g1⟩ := zlir_s h
  intro H locs lsA hH hsc hN hS hL hl hs
  rcases hk : zkd k with ⟨t1, n⟩
  rw [hk] at g1
  split at g1
  · rename_i n' heq
    cases heq
    obtain ⟨hz, g1⟩ := zgd_some g1
    have hg := zok_obj (hs _ (List.mem_cons_of_mem _ (List.mem_cons_of_mem _ List.mem_cons_self))) hk (by omega)
    show W p l e R s m args below meth c H locs cells slots Q (F0 m pc lsA (.long v :: .int i :: zvv E (.inr (.inr (g, k))) :: t.map (zvv E)))
    rw [zvv_ref (zkd_ne99 hk (by omega))]
    exact zm_last hx hH hk hg (zin_spec hz) hS hd fun H1 locs1 a1 a2 a3 => ih _ _ _ _ g1 H1 locs1 lsA a1 (hSC.2.1 _ _ _ _ _ (by rw [hk]; omega) hsc) (a2.trans hN) a3 hL hl (zot (zot (zot hs)))
  · cases g1
theorem zs_arraylength {pc nx tg : Nat} {cc : Int32} {dd : Int64} {sw mk} {ls : zL} {st : List zV} {σ : zM} (hx : zCx p R s m args c cells slots E A nL own b d sb sc) (ih : zIH p l e R s m args below meth c cells slots Q E A N nL sb sc K r) (hc : zck b own nL (pc, (.arraylength, nx, tg, cc, dd, sw, mk)) = true) (h : zop C own rk K ls st σ (.arraylength, nx, tg, cc, dd, sw, mk) = some r) : zX p l e R s m args below meth c cells slots Q E A N nL sb sc pc ls st σ := by
  obtain ⟨hd, h1⟩ := zck_s hc
  obtain ⟨rfl, hd⟩ := znx (n := 1) hd (by simpa [zck1] using h1)
  obtain ⟨g, k, t, rfl, g1⟩ := zr1_s h
  intro H locs lsA hH hsc hN hS hL hl hs
  rcases hk : zkd k with ⟨t1, n⟩
  rw [hk] at g1
  split at g1
  · rename_i n' heq
    cases heq
    have hg := zok_obj (hs _ List.mem_cons_self) hk (by omega)
    rw [List.map_cons, zvv_ref (zkd_ne99 hk (by omega))]
    refine W.alen hx.1 hx.2.1 (hH.arr1 hk hg) (hx.k.2.1 n (fun j => .int (σ.1 g k j))) (n := nI n) ?_ rfl rfl hd (ih _ _ _ _ g1 H locs lsA hH hsc hN hS hL hl (zoc trivial (zot hs)))
    rw [arrV_size]
    rfl
  · rename_i n' heq
    cases heq
    have hv := hs _ List.mem_cons_self
    unfold zokv at hv
    simp only [hk] at hv
    obtain ⟨hsb, rfl, rfl⟩ := hv
    obtain ⟨L, xs, h32, hX, hbl, hbA, hlen, hxs⟩ := hx.2.2.2.2.2.2.2.2.2.2 σ hsc hsb
    rw [hlen] at g1
    exact va_slen hx.1 hx.2.1 hX hbl hbA hS hd (ih _ _ _ _ g1 H locs lsA hH hsc hN hS hL hl (zoc trivial (zot hs)))
  · rename_i n' heq
    cases heq
    have hv := hs _ List.mem_cons_self
    unfold zokv at hv
    simp only [hk] at hv
    obtain ⟨hg, rfl⟩ := hv
    have hT := (hx.tx.1.1 g hg).2.2.2
    have e1 : (zSL.map List.length).getD g 0 = (zSL.getD g []).length := by
      rw [List.getD_eq_getElem?_getD, List.getElem?_map, List.getD_eq_getElem?_getD]
      cases zSL[g]? <;> rfl
    rw [e1] at hT
    exact va_tlen hx.1 hx.2.1 hT hS rfl hd (ih _ _ _ _ g1 H locs lsA hH hsc hN hS hL hl (zoc trivial (zot hs)))
  · cases g1
theorem zs_dup {pc nx tg : Nat} {cc : Int32} {dd : Int64} {sw mk} {ls : zL} {st : List zV} {σ : zM} (hx : zCx p R s m args c cells slots E A nL own b d sb sc) (ih : zIH p l e R s m args below meth c cells slots Q E A N nL sb sc K r) (hc : zck b own nL (pc, (.dup, nx, tg, cc, dd, sw, mk)) = true) (h : zop C own rk K ls st σ (.dup, nx, tg, cc, dd, sw, mk) = some r) : zX p l e R s m args below meth c cells slots Q E A N nL sb sc pc ls st σ := by
  obtain ⟨hd, h1⟩ := zck_s hc
  obtain ⟨rfl, hd⟩ := znx (n := 1) hd (by simpa [zck1] using h1)
  simp only [zop] at h
  intro H locs lsA hH hsc hN hS hL hl hs
  split at h
  · exact lv_dup hx.1 hx.2.1 hd rfl (ih _ _ _ _ h H locs lsA hH hsc hN hS hL hl (zoc trivial hs))
  · exact lv_dup hx.1 hx.2.1 hd (zcat hx.cat _) (ih _ _ _ _ h H locs lsA hH hsc hN hS hL hl (zoc (hs _ List.mem_cons_self) hs))
  · cases h
theorem zs_pop {pc nx tg : Nat} {cc : Int32} {dd : Int64} {sw mk} {ls : zL} {st : List zV} {σ : zM} (hx : zCx p R s m args c cells slots E A nL own b d sb sc) (ih : zIH p l e R s m args below meth c cells slots Q E A N nL sb sc K r) (hc : zck b own nL (pc, (.pop, nx, tg, cc, dd, sw, mk)) = true) (h : zop C own rk K ls st σ (.pop, nx, tg, cc, dd, sw, mk) = some r) : zX p l e R s m args below meth c cells slots Q E A N nL sb sc pc ls st σ := by
  obtain ⟨hd, h1⟩ := zck_s hc
  obtain ⟨rfl, hd⟩ := znx (n := 1) hd (by simpa [zck1] using h1)
  simp only [zop] at h
  intro H locs lsA hH hsc hN hS hL hl hs
  split at h
  · exact lv_pop hx.1 hx.2.1 hd rfl (ih _ _ _ _ h H locs lsA hH hsc hN hS hL hl (zot hs))
  · exact lv_pop hx.1 hx.2.1 hd (zcat hx.cat _) (ih _ _ _ _ h H locs lsA hH hsc hN hS hL hl (zot hs))
  · cases h
theorem zs_dup2 {pc nx tg : Nat} {cc : Int32} {dd : Int64} {sw mk} {ls : zL} {st : List zV} {σ : zM} (hx : zCx p R s m args c cells slots E A nL own b d sb sc) (ih : zIH p l e R s m args below meth c cells slots Q E A N nL sb sc K r) (hc : zck b own nL (pc, (.dup2, nx, tg, cc, dd, sw, mk)) = true) (h : zop C own rk K ls st σ (.dup2, nx, tg, cc, dd, sw, mk) = some r) : zX p l e R s m args below meth c cells slots Q E A N nL sb sc pc ls st σ := by
  obtain ⟨hd, h1⟩ := zck_s hc
  obtain ⟨rfl, hd⟩ := znx (n := 1) hd (by simpa [zck1] using h1)
  obtain ⟨i, g, k, t, rfl, g1⟩ := zir_s h
  intro H locs lsA hH hsc hN hS hL hl hs
  exact lv_dup2_11 hx.1 hx.2.1 hd rfl (zcat hx.cat _) (ih _ _ _ _ g1 H locs lsA hH hsc hN hS hL hl (zoc trivial (zoc (hs _ (List.mem_cons_of_mem _ List.mem_cons_self)) hs)))
theorem zsk_s {pc : Nat} {x : Int32} {F : Nat → zR} {df : Nat} : ∀ {sw : List (Int32 × Nat)} {os : List Int} {lo : Int}, zsk pc lo sw os = true → zsw F x df sw = some r → ((x.toInt < lo ∨ lo + (os.length : Int) ≤ x.toInt) ∧ F df = some r) ∨ (¬ x.toInt < lo ∧ ∃ (o : Int) (t : Nat), os[(x.toInt - lo).toNat]? = some o ∧ x.toInt < lo + (os.length : Int) ∧ (pc : Int) + o = (t : Int) ∧ F t = some r)
  | [], [], lo, _, h => Or.inl ⟨by simp only [List.length_nil]; omega, h⟩
  | (v, t) :: sw, o :: os, lo, hk, h => by
    simp only [zsk, Bool.and_eq_true, decide_eq_true_eq] at hk
    obtain ⟨⟨h1, h2⟩, h3⟩ := hk
    unfold zsw at h
    by_cases hv : x = v
    · rw [if_pos hv] at h
      subst hv
      refine Or.inr ⟨by omega, o, t, ?_, by rw [List.length_cons]; omega, h2, h⟩
      rw [h1, Int.sub_self]
      rfl
    · rw [if_neg hv] at h
      have hne : ¬ x.toInt = lo := fun q => hv (Int32.toInt_inj.mp (q.trans h1.symm))
      rcases zsk_s h3 h with ⟨h4, h5⟩ | ⟨h4, o', t', h5, h6, h7, h8⟩
      · refine Or.inl ⟨?_, h5⟩
        rw [List.length_cons]
        omega
      · refine Or.inr ⟨by omega, o', t', ?_, by rw [List.length_cons]; omega, h7, h8⟩
        rw [show (x.toInt - lo).toNat = (x.toInt - (lo + 1)).toNat + 1 by omega, List.getElem?_cons_succ]
        exact h5
  | [], _ :: _, _, hk, _ => by cases hk
  | _ :: _, [], _, hk, _ => by cases hk
theorem zs_tableswitch {pc nx tg : Nat} {cc : Int32} {dd : Int64} {sw mk} {ls : zL} {st : List zV} {σ : zM} {df lo hi : Int} {os : Array Int} (hx : zCx p R s m args c cells slots E A nL own b d sb sc) (ih : zIH p l e R s m args below meth c cells slots Q E A N nL sb sc K r) (hc : zck b own nL (pc, (.tableswitch df lo hi os, nx, tg, cc, dd, sw, mk)) = true) (h : zop C own rk K ls st σ (.tableswitch df lo hi os, nx, tg, cc, dd, sw, mk) = some r) : zX p l e R s m args below meth c cells slots Q E A N nL sb sc pc ls st σ := by
  obtain ⟨hd, h1⟩ := zck_s hc
  simp only [zck1, Bool.and_eq_true, decide_eq_true_eq] at h1
  obtain ⟨h1, h2, h3⟩ := h1
  obtain ⟨x, t, rfl, g1⟩ := zo1_s h
  intro H locs lsA hH hsc hN hS hL hl hs
  rcases zsk_s (F := fun t' => K t' ls t σ) h3 g1 with ⟨h4, h5⟩ | ⟨h4, o, t', h5, h6, h7, h8⟩
  · exact lv_tableOut hx.1 hx.2.1 hd (by omega) h1 (ih _ _ _ _ h5 H locs lsA hH hsc hN hS hL hl (zot hs))
  · exact lv_tableIn hx.1 hx.2.1 hd h4 (by omega) (by rw [← Array.getElem?_toList]; exact h5) h7 (ih _ _ _ _ h8 H locs lsA hH hsc hN hS hL hl (zot hs))
theorem zsl_s {pc tg : Nat} {x : Int32} {F : Nat → zR} {df : Int} (hdf : (pc : Int) + df = (tg : Int)) : ∀ {sw : List (Int32 × Nat)} {ps : List (Int × Int)}, zsl pc sw ps = true → zsw F x tg sw = some r → ∃ t : Nat, (pc : Int) + Op.lookupswitch.offset ps df x.toInt = (t : Int) ∧ F t = some r
  | [], [], _, h => ⟨tg, hdf, h⟩
  | (v, t) :: sw, (a, o) :: ps, hk, h => by
    simp only [zsl, Bool.and_eq_true, decide_eq_true_eq] at hk
    obtain ⟨⟨h1, h2⟩, h3⟩ := hk
    unfold zsw at h
    rw [Op.lookupswitch.offset_cons]
    by_cases hv : x = v
    · rw [if_pos hv] at h
      subst hv
      rw [if_pos h1.symm]
      exact ⟨t, h2, h⟩
    · rw [if_neg hv] at h
      rw [if_neg fun q => hv (Int32.toInt_inj.mp (q.symm.trans h1.symm))]
      exact zsl_s hdf h3 h
  | [], _ :: _, hk, _ => by cases hk
  | _ :: _, [], hk, _ => by cases hk
theorem zs_lookupswitch {pc nx tg : Nat} {cc : Int32} {dd : Int64} {sw mk} {ls : zL} {st : List zV} {σ : zM} {df : Int} {ps : Array (Int × Int)} (hx : zCx p R s m args c cells slots E A nL own b d sb sc) (ih : zIH p l e R s m args below meth c cells slots Q E A N nL sb sc K r) (hc : zck b own nL (pc, (.lookupswitch df ps, nx, tg, cc, dd, sw, mk)) = true) (h : zop C own rk K ls st σ (.lookupswitch df ps, nx, tg, cc, dd, sw, mk) = some r) : zX p l e R s m args below meth c cells slots Q E A N nL sb sc pc ls st σ := by
  obtain ⟨hd, h1⟩ := zck_s hc
  simp only [zck1, Bool.and_eq_true, decide_eq_true_eq] at h1
  obtain ⟨h1, h2, h3⟩ := h1
  obtain ⟨x, t, rfl, g1⟩ := zo1_s h
  intro H locs lsA hH hsc hN hS hL hl hs
  obtain ⟨t', h5, h6⟩ := zsl_s (F := fun t' => K t' ls t σ) h1 h3 g1
  exact lv_lookup hx.1 hx.2.1 hd h2 rfl h5 (ih _ _ _ _ h6 H locs lsA hH hsc hN hS hL hl (zot hs))
end ZMN
end
section
theorem zna_s {sb : Bool} : ∀ {as : List zV}, zna as = true → (∀ v ∈ as, zokv sb v) → ∀ v ∈ as, zokv false v
  | [], _, _, v, h => by cases h
  | .inl x :: r, hn, ha, v, h => by
    rcases List.mem_cons.mp h with h | h
    · rw [h]; trivial
    · exact zna_s (as := r) hn (fun w hw => ha w (List.mem_cons_of_mem _ hw)) v h
  | .inr (.inl x) :: r, hn, ha, v, h => by
    rcases List.mem_cons.mp h with h | h
    · rw [h]; trivial
    · exact zna_s (as := r) hn (fun w hw => ha w (List.mem_cons_of_mem _ hw)) v h
  | .inr (.inr (g, k)) :: r, hn, ha, v, h => by
    have hn : (!(Nat.beq k 90) && zna r) = true := hn
    simp only [Bool.and_eq_true, Bool.not_eq_true'] at hn
    rcases List.mem_cons.mp h with h | h
    · rw [h]
      have hv := ha _ List.mem_cons_self
      unfold zokv at hv ⊢
      dsimp only at hv ⊢
      split
      · rename_i h5
        rw [h5] at hv
        rw [hv.2.2] at hn
        cases hn.1
      all_goals (rename_i h5; rw [h5] at hv; exact hv)
    · exact zna_s (as := r) hn.2 (fun w hw => ha w (List.mem_cons_of_mem _ hw)) v h
/-- what is held of the calls -/
def zCok (l : Launch) (E : zEn) (d : Nat) (sc : zM → Prop) (C : zC) : Prop := (∀ j as σ r, zbi j = none → C j as σ = some r → (∀ v ∈ as, zokv false v) → ∃ q T, zME[j]? = some q ∧ zTL[j]? = some T ∧ zMt l E d q T.2.2.1 as σ r) ∧ (∀ j f, zbi j = some f → ∀ as σ r, C j as σ = some r → f as σ = some r) ∧ ∀ j as σ r, C j as σ = some r → sc σ → sc r.2.2
theorem zmi_rk {j : Nat} {T : zT} (h : zTL[j]? = some T) (hj : j < zNAC) : (zMI.getD j (0, 9)).2 = T.2.2.1 := by
  have hall : ∀ j, j < zNAC → (zMI.getD j (0, 9)).2 = (zTL.getD j (0, [], 9, 0)).2.2.1 := by decide +kernel
  rw [hall j hj, List.getD_eq_getElem?_getD, h]
  rfl
theorem zY_q {j : Nat} {q : MethodName × ByteArray × Nat × Option FieldType} (h : zME[j]? = some q) : zY j = q.1 := by
  unfold zY
  rw [List.getD_eq_getElem?_getD, h]
  rfl
theorem zcal_s {rk nx : Nat} {K : zKt} {ls : zL} {rest : List zV} {x : Int32 × Int64 × zM} {E : zEn} {r} (hrk : ∃ ty, zrt rk = some ty) (h : zcal rk nx K ls rest x = some r) : ∃ st, K nx ls st x.2.2 = some r ∧ (zrv rk x).toList ++ rest.map (zvv E) = st.map (zvv E) ∧ ∀ v ∈ st, v ∈ rest ∨ ∀ sb, zokv sb v := by
  unfold zcal at h
  split at h
  · exact ⟨rest, h, rfl, fun v hv => Or.inl hv⟩
  · exact ⟨_, h, rfl, fun v hv => (List.mem_cons.mp hv).elim (fun e => Or.inr fun _ => e ▸ trivial) Or.inl⟩
  · refine ⟨_, h, ?_, fun v hv => (List.mem_cons.mp hv).elim (fun e => Or.inr fun _ => e ▸ trivial) Or.inl⟩
    unfold zrv
    split
    · omega
    · omega
    · rfl
section ZRN
variable {p : Program} {l : Launch} {e : Env} {R : Room} {s : State} {m : MethodId} {args : Array Value} {below : List Frame} {meth : Method} {c : Code} {cells slots : Nat} {Q : State → Prop} {E : zEn} {A : Nat → Prop} {N nL : Nat} {sb : Bool} {sc : zM → Prop} {own d rk : Nat} {b : ByteArray} {C : zC} {K : zKt} {r : Int32 × Int64 × zM}
theorem zbi_cases {j : Nat} {f} (h : zbi j = some f) : (j = zNAC ∧ f = zcopy) ∨ (j = zMAX ∧ f = zmx) ∨ (j = zMIN ∧ f = zmn) := by
  unfold zbi at h
  cases h1 : Nat.beq j zNAC with
  | true => rw [h1] at h; cases h; exact Or.inl ⟨Nat.eq_of_beq_eq_true h1, rfl⟩
  | false =>
    rw [h1] at h
    cases h2 : Nat.beq j zMAX with
    | true => rw [h2] at h; cases h; exact Or.inr (Or.inl ⟨Nat.eq_of_beq_eq_true h2, rfl⟩)
    | false =>
      rw [h2] at h
      cases h3 : Nat.beq j zMIN with
      | true => rw [h3] at h; cases h; exact Or.inr (Or.inr ⟨Nat.eq_of_beq_eq_true h3, rfl⟩)
      | false => rw [h3] at h; cases h
theorem zs_invoke {pc i : Nat} {vf : Bool} {ls : zL} {st : List zV} {σ : zM} (hx : zCx p R s m args c cells slots E A nL own b d sb sc) (hC : zCok l E d sc C) (hSC : zSC sc) (ih : zIH p l e R s m args below meth c cells slots Q E A N nL sb sc K r) (hd : decode b pc = .ok (if vf = true then .invokevirtual i else .invokestatic i, 3)) (h : zinv C own (pc + 3) i vf K ls st σ = some r) : zX p l e R s m args below meth c cells slots Q E A N nL sb sc pc ls st σ := by
  unfold zinv at h
  cases hm : zmd own i with
  | none => rw [hm] at h; cases h
  | some q0 =>
    obtain ⟨j, n, rc⟩ := q0
    rw [hm] at h
    dsimp only at h
    cases hp : zpop n st [] with
    | none => rw [hp] at h; cases h
    | some w =>
      obtain ⟨as, rest⟩ := w
      rw [hp] at h
      obtain ⟨hb, h⟩ := zcb_some h
      simp only [Bool.and_eq_true] at hb
      obtain ⟨hrc, hsz, hna, hvf⟩ := hb
      have hsz := Nat.le_of_ble_eq_true hsz
      obtain ⟨t, ht1, ht2, ht3⟩ := zpop_s hp
      rw [List.append_nil] at ht3
      have hst : st = as.reverse ++ rest := by rw [ht2, ht3, List.reverse_reverse]
      have hlen : as.length = n := by rw [ht3, List.length_reverse, ht1]
      obtain ⟨hlk, hstat, hvirt, hpar, hn0, hjn, hnac⟩ := zMok_all own _ (zma_mem hm)
      dsimp only at hlk hstat hvirt hpar hn0 hjn hnac
      cases hcall : C j as σ with
      | none => rw [hcall] at h; cases h
      | some x =>
        rw [hcall] at h
        have h : zcal (zMI.getD j (0, 9)).2 (pc + 3) K ls rest x = some r := h
        intro H locs lsA hH hsc hN hS hL hl hs
        have hsa : ∀ v ∈ as, zokv sb v := fun v hv => hs v (by rw [hst]; exact List.mem_append_left _ (List.mem_reverse.mpr hv))
        have hsr : ∀ v ∈ rest, zokv sb v := fun v hv => hs v (by rw [hst]; exact List.mem_append_right _ hv)
        have hsc' := hC.2.2 _ _ _ _ hcall hsc
        cases hbi : zbi j with
        | none =>
          obtain ⟨q, T, hq, hT, hM⟩ := hC.1 j as σ x hbi hcall (zna_s hna hsa)
          have hjlt : j < zNAC := by
            rcases Nat.lt_or_ge j zNAC with z | z
            · exact z
            · have : j = zNAC := by omega
              rw [this] at hbi
              cases hbi
          have hjl : j < 281 ∨ j = 281 := by have : zNAC = 282 := rfl; omega
          rcases hjl with hjl | hjl
          · obtain ⟨w1, w2, w3, w4, w5, w6, w7, w8, w9⟩ := zJall j q T hq hT hjl hbi
            have hrk := zmi_rk hT hjlt
            rw [hrk] at h
            obtain ⟨st2, h2, h3, h4⟩ := zcal_s (E := E) ⟨_, w8⟩ h
            have hs2 : ∀ v ∈ st2, zokv sb v := fun v hv => (h4 v hv).elim (hsr v) (fun z => z sb)
            have hYq := zY_q hq
            rw [hYq] at hlk hstat hvirt hpar
            have goal : ∀ (H1 : Heap) (locs1 : List Loc), zHp E x.2.2 H1 → H1.size = H.size → va_S A s.heap H1 locs1 → W p l e R s m args below meth c H1 locs1 cells slots Q (F0 m (pc + 3) lsA ((zrv T.2.2.1 x).toList ++ rest.map (zvv E))) := fun H1 locs1 a1 a2 a3 => by
              rw [h3]
              exact ih _ _ _ _ h2 H1 locs1 lsA a1 hsc' (a2.trans hN) a3 hL hl hs2
            cases vf with
            | false =>
              have hrc0 : rc = 0 := by
                cases rc with
                | zero => rfl
                | succ k => cases hvf
              subst hrc0
              have hlk' : Cond.methodLink (zcn own) i q.1 ∈ zGW ∨ ∃ host, (zcn own, i, q.1, host) ∈ zNest := hlk.imp id fun ⟨host, z, _⟩ => ⟨host, z⟩
              have := zm_static hx hM w1 w2 (by rw [w5]; exact w6) w9 hlk' (hstat rfl) (by rw [hpar, if_pos rfl, hlen]; rfl) hsz hL.1 hH hS hd goal
              rw [hst, List.map_append, List.map_reverse]
              exact this
            | true =>
              cases rc with
              | zero => cases hvf
              | succ ci =>
                obtain ⟨v1, v2, v3⟩ := hvirt ci rfl
                cases as with
                | nil => cases hrc
                | cons a as =>
                  rcases a with x' | x' | ⟨g, k⟩
                  · cases hrc
                  · cases hrc
                  · have hl' : Cond.methodLink (zcn own) i q.1 ∈ zGW := by
                      rcases hlk with z | ⟨_, _, z⟩
                      · exact z
                      · cases z
                    have hpar' : (parseMethodDescriptor q.1.desc).map (fun d => d.parameters.length) = some as.length := by
                      rw [hpar, if_neg (Nat.succ_ne_zero _), ← hlen]
                      rfl
                    have hrc : (match zkd k with | (0, n) => Nat.beq n ci | (6, _) => Nat.beq 16 ci | _ => false) = true := hrc
                    rcases hk : zkd k with ⟨t1, n1⟩
                    rw [hk] at hrc
                    have hrec : (∃ cellB : Cell, H[E.1 g k]? = some cellB ∧ cellB.vm.isStatics = false ∧ s.vm.findClass (zcn ci) = some cellB.cls) ∧ t1 < 9 := by
                      split at hrc
                      · rename_i n' heq
                        cases heq
                        have := Nat.eq_of_beq_eq_true hrc
                        subst this
                        exact ⟨zm_recv hx hH hk (zok_obj (hsa _ List.mem_cons_self) hk (by omega)), by omega⟩
                      · rename_i n' heq
                        cases heq
                        have := Nat.eq_of_beq_eq_true hrc
                        subst this
                        have hv := hsa _ List.mem_cons_self
                        unfold zokv at hv
                        simp only [hk] at hv
                        obtain ⟨hg, rfl⟩ := hv
                        exact ⟨zm_recvS hx hS hg, by omega⟩
                      · cases hrc
                    have := zm_virtual hx hM w1 w2 (by rw [w5]; exact w6) w9 hl' v1 v2 hpar' hsz hL.1 (zkd_ne99 hk hrec.2) hrec.1 hH hS hd goal
                    rw [hst, List.map_append, List.map_reverse, List.map_cons, List.reverse_cons, zvv_ref (zkd_ne99 hk hrec.2), List.append_assoc]
                    exact this
          · subst hjl
            have hqq : zME[281]? = some (yL_law, cL_law, 4, some .boolean) := rfl
            rw [hqq] at hq
            cases hq
            exfalso
            have hno : ∀ o, o < 19 → ∀ q ∈ zMD.getD o [], ¬ q.2.1 = 281 := by decide +kernel
            rcases Nat.lt_or_ge own 19 with ho | ho
            · exact hno own ho _ (zma_mem hm) rfl
            · obtain ⟨k, rfl⟩ : ∃ k, own = k + 19 := ⟨own - 19, by omega⟩
              exact absurd (zma_mem hm) List.not_mem_nil
        | some f =>
          have hf := hC.2.1 j f hbi as σ x hcall
          have hR := hx.room
          have hcat := Nat.le_trans (zsz_le hx.cat rest) hsz
          rcases zbi_cases hbi with ⟨rfl, rfl⟩ | ⟨rfl, rfl⟩ | ⟨rfl, rfl⟩
          · obtain ⟨hlm, hrc0, hn5⟩ := hnac rfl
            subst hrc0
            cases vf with
            | true => cases hvf
            | false =>
              unfold zcopy at hf
              split at hf
              · rename_i g k sp g2 k2 dp nn σ'
                rcases hk : zkd k with ⟨t1, n1⟩
                rcases hk2 : zkd k2 with ⟨t2, n2⟩
                rw [hk, hk2] at hf
                split at hf
                · rename_i a1 a2 hq1 hq2
                  cases hq1
                  cases hq2
                  cases hz : (decide (0 ≤ sp) && decide (0 ≤ dp) && decide (0 ≤ nn) && Nat.ble (sp.toNatClampNeg + nn.toNatClampNeg) n1 && Nat.ble (dp.toNatClampNeg + nn.toNatClampNeg) n2) with
                  | false => rw [hz] at hf; cases hf
                  | true =>
                    rw [hz] at hf
                    cases hf
                    simp only [Bool.and_eq_true, decide_eq_true_eq] at hz
                    obtain ⟨⟨⟨⟨z1, z2⟩, z3⟩, z4⟩, z5⟩ := hz
                    have hg := zok_obj (hsa _ List.mem_cons_self) hk (by omega)
                    have hg2 := zok_obj (hsa _ (List.mem_cons_of_mem _ (List.mem_cons_of_mem _ List.mem_cons_self))) hk2 (by omega)
                    rw [hst]
                    show W p l e R s m args below meth c H locs cells slots Q (F0 m pc lsA (.int nn :: .int dp :: zvv E (.inr (.inr (g2, k2))) :: .int sp :: zvv E (.inr (.inr (g, k))) :: rest.map (zvv E)))
                    rw [zvv_ref (zkd_ne99 hk (by omega)), zvv_ref (zkd_ne99 hk2 (by omega))]
                    exact zm_copy hx hk hk2 hg hg2 (Int32.not_lt.mpr z1) (Int32.not_lt.mpr z2) (Int32.not_lt.mpr z3) (Nat.le_of_ble_eq_true z4) (Nat.le_of_ble_eq_true z5) hlm hsz hL.1 hH hS hd fun H1 locs1 a1 a2 a3 => ih _ _ _ _ h H1 locs1 lsA a1 hsc' (a2.trans hN) a3 hL hl hsr
                · cases hf
              · cases hf
          · have hY : zY zMAX = Lib.Math.max.name := by decide +kernel
            cases vf with
            | true =>
              cases rc with
              | zero => cases hvf
              | succ ci => exact absurd (hvirt ci rfl).1 (by
                  intro _
                  have hno : ∀ o, o < 19 → ∀ q ∈ zMD.getD o [], q.2.1 = zMAX → q.2.2.2 = 0 := by decide +kernel
                  rcases Nat.lt_or_ge own 19 with ho | ho
                  · exact absurd (hno own ho _ (zma_mem hm) rfl) (Nat.succ_ne_zero _)
                  · obtain ⟨k, rfl⟩ : ∃ k, own = k + 19 := ⟨own - 19, by omega⟩
                    exact absurd (zma_mem hm) List.not_mem_nil)
            | false =>
              have hrc0 : rc = 0 := by
                cases rc with
                | zero => rfl
                | succ k => cases hvf
              subst hrc0
              unfold zmx at hf
              split at hf
              · cases hf
                rw [hst]
                rw [hY] at hlk hstat
                have hl' : Cond.methodLink (zcn own) i Lib.Math.max.name ∈ zGW := by
                  rcases hlk with z | ⟨host, z, _⟩
                  · exact z
                  · exact absurd z (by
                      have : ∀ q ∈ zNest, q.2.2.1 ≠ Lib.Math.max.name := by decide +kernel
                      intro z; exact this _ z rfl)
                exact va_mmax hx.1 hx.2.1 (by rw [hx.2.2.1]; exact hL.1.symm) hx.ow (hx.wd hl') (hx.wd zmw_max.1) (hx.wd zmw_math) (hx.wd zmw_max.2) (by omega) (by omega) hR.2.2.1 hR.2.2.2 hd (ih _ _ _ _ h H locs lsA hH hsc hN hS hL hl (zoc trivial hsr))
              · cases hf
          · have hY : zY zMIN = Lib.Math.min.name := by decide +kernel
            cases vf with
            | true =>
              cases rc with
              | zero => cases hvf
              | succ ci => exact absurd (hvirt ci rfl).1 (by
                  intro _
                  have hno : ∀ o, o < 19 → ∀ q ∈ zMD.getD o [], q.2.1 = zMIN → q.2.2.2 = 0 := by decide +kernel
                  rcases Nat.lt_or_ge own 19 with ho | ho
                  · exact absurd (hno own ho _ (zma_mem hm) rfl) (Nat.succ_ne_zero _)
                  · obtain ⟨k, rfl⟩ : ∃ k, own = k + 19 := ⟨own - 19, by omega⟩
                    exact absurd (zma_mem hm) List.not_mem_nil)
            | false =>
              have hrc0 : rc = 0 := by
                cases rc with
                | zero => rfl
                | succ k => cases hvf
              subst hrc0
              unfold zmn at hf
              split at hf
              · cases hf
                rw [hst]
                rw [hY] at hlk hstat
                have hl' : Cond.methodLink (zcn own) i Lib.Math.min.name ∈ zGW := by
                  rcases hlk with z | ⟨host, z, _⟩
                  · exact z
                  · exact absurd z (by
                      have : ∀ q ∈ zNest, q.2.2.1 ≠ Lib.Math.min.name := by decide +kernel
                      intro z; exact this _ z rfl)
                exact va_mmin hx.1 hx.2.1 (by rw [hx.2.2.1]; exact hL.1.symm) hx.ow (hx.wd hl') (hx.wd zmw_min.1) (hx.wd zmw_math) (hx.wd zmw_min.2) (by omega) (by omega) hR.2.2.1 hR.2.2.2 hd (ih _ _ _ _ h H locs lsA hH hsc hN hS hL hl (zoc trivial hsr))
              · cases hf
end ZRN
end
