section
-- ===== PART A: goes FIRST, ahead of the names: the tables' words, and 'selects' of the private methods out of them =====
/-- a private method of a class that the tables say can be made, by its rows of tables_1 -/
def lw_okq (q : MethodName × Nat) : Prop := (q.1.cls ≠ "java/lang/invoke/MethodHandle" ∧ q.1.cls ≠ "java/lang/invoke/VarHandle") ∧ Cond.instantiable q.1.cls q.2 ∈ tables_1 ∧ Cond.privateMethod q.1 ∈ tables_1 ∧ Cond.instanceMethod q.1 ∈ tables_1
theorem lw_p0 : lw_okq (⟨"OakCourt$Rules", "isSo", "(II)Z"⟩, 8) := ⟨⟨by decide +kernel, by decide +kernel⟩, List.mem_of_getElem? (i := 42) (by decide +kernel), List.mem_of_getElem? (i := 428) (by decide +kernel), List.mem_of_getElem? (i := 429) (by decide +kernel)⟩
theorem lw_p1 : lw_okq (⟨"OakCourt$Rules", "changedBy", "(II)I"⟩, 8) := ⟨⟨by decide +kernel, by decide +kernel⟩, List.mem_of_getElem? (i := 42) (by decide +kernel), List.mem_of_getElem? (i := 435) (by decide +kernel), List.mem_of_getElem? (i := 436) (by decide +kernel)⟩
theorem lw_p2 : lw_okq (⟨"OakCourt$Tape", "nameWord", "(II)I"⟩, 2) := ⟨⟨by decide +kernel, by decide +kernel⟩, List.mem_of_getElem? (i := 205) (by decide +kernel), List.mem_of_getElem? (i := 507) (by decide +kernel), List.mem_of_getElem? (i := 508) (by decide +kernel)⟩
theorem lw_p3 : lw_okq (⟨"OakCourt$Tape", "isName", "(Ljava/lang/String;II)Z"⟩, 2) := ⟨⟨by decide +kernel, by decide +kernel⟩, List.mem_of_getElem? (i := 205) (by decide +kernel), List.mem_of_getElem? (i := 512) (by decide +kernel), List.mem_of_getElem? (i := 513) (by decide +kernel)⟩
theorem lw_p4 : lw_okq (⟨"OakCourt$Tape", "numberWord", "(II)I"⟩, 2) := ⟨⟨by decide +kernel, by decide +kernel⟩, List.mem_of_getElem? (i := 205) (by decide +kernel), List.mem_of_getElem? (i := 581) (by decide +kernel), List.mem_of_getElem? (i := 582) (by decide +kernel)⟩
theorem lw_p5 : lw_okq (⟨"OakCourt$RuleReader", "takes", "(I)Z"⟩, 7) := ⟨⟨by decide +kernel, by decide +kernel⟩, List.mem_of_getElem? (i := 220) (by decide +kernel), List.mem_of_getElem? (i := 585) (by decide +kernel), List.mem_of_getElem? (i := 586) (by decide +kernel)⟩
theorem lw_p6 : lw_okq (⟨"OakCourt$RuleReader", "takesKind", "(I)Z"⟩, 7) := ⟨⟨by decide +kernel, by decide +kernel⟩, List.mem_of_getElem? (i := 220) (by decide +kernel), List.mem_of_getElem? (i := 589) (by decide +kernel), List.mem_of_getElem? (i := 590) (by decide +kernel)⟩
theorem lw_p7 : lw_okq (⟨"OakCourt$RuleReader", "takesIf", "(I)Z"⟩, 7) := ⟨⟨by decide +kernel, by decide +kernel⟩, List.mem_of_getElem? (i := 220) (by decide +kernel), List.mem_of_getElem? (i := 594) (by decide +kernel), List.mem_of_getElem? (i := 595) (by decide +kernel)⟩
theorem lw_p8 : lw_okq (⟨"OakCourt$RuleReader", "takesDeed", "(I)Z"⟩, 7) := ⟨⟨by decide +kernel, by decide +kernel⟩, List.mem_of_getElem? (i := 220) (by decide +kernel), List.mem_of_getElem? (i := 598) (by decide +kernel), List.mem_of_getElem? (i := 599) (by decide +kernel)⟩
theorem lw_p9 : lw_okq (⟨"OakCourt$RuleReader", "settle", "(I)V"⟩, 7) := ⟨⟨by decide +kernel, by decide +kernel⟩, List.mem_of_getElem? (i := 220) (by decide +kernel), List.mem_of_getElem? (i := 602) (by decide +kernel), List.mem_of_getElem? (i := 603) (by decide +kernel)⟩
theorem lw_p10 : lw_okq (⟨"OakCourt$RuleReader", "step", "(I)V"⟩, 7) := ⟨⟨by decide +kernel, by decide +kernel⟩, List.mem_of_getElem? (i := 220) (by decide +kernel), List.mem_of_getElem? (i := 606) (by decide +kernel), List.mem_of_getElem? (i := 607) (by decide +kernel)⟩
theorem lw_p11 : lw_okq (⟨"OakCourt$RuleReader", "takesAmount", "(I)Z"⟩, 7) := ⟨⟨by decide +kernel, by decide +kernel⟩, List.mem_of_getElem? (i := 220) (by decide +kernel), List.mem_of_getElem? (i := 610) (by decide +kernel), List.mem_of_getElem? (i := 611) (by decide +kernel)⟩
theorem lw_p12 : lw_okq (⟨"OakCourt$RuleReader", "takesEnd", "(I)Z"⟩, 7) := ⟨⟨by decide +kernel, by decide +kernel⟩, List.mem_of_getElem? (i := 220) (by decide +kernel), List.mem_of_getElem? (i := 614) (by decide +kernel), List.mem_of_getElem? (i := 615) (by decide +kernel)⟩
theorem lw_p13 : lw_okq (⟨"OakCourt$RuleReader", "takesOne", "(I)Z"⟩, 7) := ⟨⟨by decide +kernel, by decide +kernel⟩, List.mem_of_getElem? (i := 220) (by decide +kernel), List.mem_of_getElem? (i := 618) (by decide +kernel), List.mem_of_getElem? (i := 619) (by decide +kernel)⟩
theorem lw_p14 : lw_okq (⟨"OakCourt$RuleReader", "await", "(I)V"⟩, 7) := ⟨⟨by decide +kernel, by decide +kernel⟩, List.mem_of_getElem? (i := 220) (by decide +kernel), List.mem_of_getElem? (i := 622) (by decide +kernel), List.mem_of_getElem? (i := 623) (by decide +kernel)⟩
theorem lw_p15 : lw_okq (⟨"OakCourt$RuleReader", "takesSign", "(I)Z"⟩, 7) := ⟨⟨by decide +kernel, by decide +kernel⟩, List.mem_of_getElem? (i := 220) (by decide +kernel), List.mem_of_getElem? (i := 629) (by decide +kernel), List.mem_of_getElem? (i := 630) (by decide +kernel)⟩
def lw_privs_1 : List (MethodName × Nat) := [(⟨"OakCourt$Rules", "isSo", "(II)Z"⟩, 8), (⟨"OakCourt$Rules", "changedBy", "(II)I"⟩, 8), (⟨"OakCourt$Tape", "nameWord", "(II)I"⟩, 2), (⟨"OakCourt$Tape", "isName", "(Ljava/lang/String;II)Z"⟩, 2), (⟨"OakCourt$Tape", "numberWord", "(II)I"⟩, 2), (⟨"OakCourt$RuleReader", "takes", "(I)Z"⟩, 7), (⟨"OakCourt$RuleReader", "takesKind", "(I)Z"⟩, 7), (⟨"OakCourt$RuleReader", "takesIf", "(I)Z"⟩, 7), (⟨"OakCourt$RuleReader", "takesDeed", "(I)Z"⟩, 7), (⟨"OakCourt$RuleReader", "settle", "(I)V"⟩, 7), (⟨"OakCourt$RuleReader", "step", "(I)V"⟩, 7), (⟨"OakCourt$RuleReader", "takesAmount", "(I)Z"⟩, 7), (⟨"OakCourt$RuleReader", "takesEnd", "(I)Z"⟩, 7), (⟨"OakCourt$RuleReader", "takesOne", "(I)Z"⟩, 7), (⟨"OakCourt$RuleReader", "await", "(I)V"⟩, 7), (⟨"OakCourt$RuleReader", "takesSign", "(I)Z"⟩, 7)]
theorem lw_r1 : ∀ q ∈ lw_privs_1, lw_okq q := List.forall_mem_cons.mpr ⟨lw_p0, List.forall_mem_cons.mpr ⟨lw_p1, List.forall_mem_cons.mpr ⟨lw_p2, List.forall_mem_cons.mpr ⟨lw_p3, List.forall_mem_cons.mpr ⟨lw_p4, List.forall_mem_cons.mpr ⟨lw_p5, List.forall_mem_cons.mpr ⟨lw_p6, List.forall_mem_cons.mpr ⟨lw_p7, List.forall_mem_cons.mpr ⟨lw_p8, List.forall_mem_cons.mpr ⟨lw_p9, List.forall_mem_cons.mpr ⟨lw_p10, List.forall_mem_cons.mpr ⟨lw_p11, List.forall_mem_cons.mpr ⟨lw_p12, List.forall_mem_cons.mpr ⟨lw_p13, List.forall_mem_cons.mpr ⟨lw_p14, List.forall_mem_cons.mpr ⟨lw_p15, fun _ h => absurd h List.not_mem_nil⟩⟩⟩⟩⟩⟩⟩⟩⟩⟩⟩⟩⟩⟩⟩⟩
theorem lw_p16 : lw_okq (⟨"OakCourt$RuleReader", "takesValue", "(I)Z"⟩, 7) := ⟨⟨by decide +kernel, by decide +kernel⟩, List.mem_of_getElem? (i := 220) (by decide +kernel), List.mem_of_getElem? (i := 633) (by decide +kernel), List.mem_of_getElem? (i := 634) (by decide +kernel)⟩
theorem lw_p17 : lw_okq (⟨"OakCourt$RuleReader", "takesJoint", "(I)Z"⟩, 7) := ⟨⟨by decide +kernel, by decide +kernel⟩, List.mem_of_getElem? (i := 220) (by decide +kernel), List.mem_of_getElem? (i := 637) (by decide +kernel), List.mem_of_getElem? (i := 638) (by decide +kernel)⟩
theorem lw_p18 : lw_okq (⟨"OakCourt$Oak", "breakOff", "(I)I"⟩, 5) := ⟨⟨by decide +kernel, by decide +kernel⟩, List.mem_of_getElem? (i := 30) (by decide +kernel), List.mem_of_getElem? (i := 713) (by decide +kernel), List.mem_of_getElem? (i := 714) (by decide +kernel)⟩
theorem lw_p19 : lw_okq (⟨"OakCourt", "tryWithout", "(I)V"⟩, 10) := ⟨⟨by decide +kernel, by decide +kernel⟩, List.mem_of_getElem? (i := 22) (by decide +kernel), List.mem_of_getElem? (i := 771) (by decide +kernel), List.mem_of_getElem? (i := 772) (by decide +kernel)⟩
theorem lw_p20 : lw_okq (⟨"OakCourt", "seatedIfPropped", "(I)I"⟩, 10) := ⟨⟨by decide +kernel, by decide +kernel⟩, List.mem_of_getElem? (i := 22) (by decide +kernel), List.mem_of_getElem? (i := 784) (by decide +kernel), List.mem_of_getElem? (i := 785) (by decide +kernel)⟩
theorem lw_p21 : lw_okq (⟨"OakCourt", "crackingWinds", "()I"⟩, 10) := ⟨⟨by decide +kernel, by decide +kernel⟩, List.mem_of_getElem? (i := 22) (by decide +kernel), List.mem_of_getElem? (i := 792) (by decide +kernel), List.mem_of_getElem? (i := 793) (by decide +kernel)⟩
theorem lw_p22 : lw_okq (⟨"OakCourt", "isSeatable", "(I)Z"⟩, 10) := ⟨⟨by decide +kernel, by decide +kernel⟩, List.mem_of_getElem? (i := 22) (by decide +kernel), List.mem_of_getElem? (i := 805) (by decide +kernel), List.mem_of_getElem? (i := 806) (by decide +kernel)⟩
theorem lw_p23 : lw_okq (⟨"OakCourt$Seating", "seatsFrom", "(I)Z"⟩, 4) := ⟨⟨by decide +kernel, by decide +kernel⟩, List.mem_of_getElem? (i := 251) (by decide +kernel), List.mem_of_getElem? (i := 823) (by decide +kernel), List.mem_of_getElem? (i := 824) (by decide +kernel)⟩
theorem lw_p24 : lw_okq (⟨"OakCourt$Seating", "valueOf", "(II)I"⟩, 4) := ⟨⟨by decide +kernel, by decide +kernel⟩, List.mem_of_getElem? (i := 251) (by decide +kernel), List.mem_of_getElem? (i := 841) (by decide +kernel), List.mem_of_getElem? (i := 842) (by decide +kernel)⟩
theorem lw_p25 : lw_okq (⟨"OakCourt$Seating", "valueBehind", "(III)I"⟩, 4) := ⟨⟨by decide +kernel, by decide +kernel⟩, List.mem_of_getElem? (i := 251) (by decide +kernel), List.mem_of_getElem? (i := 849) (by decide +kernel), List.mem_of_getElem? (i := 850) (by decide +kernel)⟩
theorem lw_p26 : lw_okq (⟨"OakCourt$Reports", "narrow", "(LOakCourt$Oak;I)V"⟩, 5) := ⟨⟨by decide +kernel, by decide +kernel⟩, List.mem_of_getElem? (i := 156) (by decide +kernel), List.mem_of_getElem? (i := 882) (by decide +kernel), List.mem_of_getElem? (i := 883) (by decide +kernel)⟩
theorem lw_p27 : lw_okq (⟨"OakCourt", "boughOn", "(I)I"⟩, 10) := ⟨⟨by decide +kernel, by decide +kernel⟩, List.mem_of_getElem? (i := 22) (by decide +kernel), List.mem_of_getElem? (i := 1007) (by decide +kernel), List.mem_of_getElem? (i := 1008) (by decide +kernel)⟩
theorem lw_p28 : lw_okq (⟨"OakCourt$Acts", "begin", "(I)V"⟩, 6) := ⟨⟨by decide +kernel, by decide +kernel⟩, List.mem_of_getElem? (i := 324) (by decide +kernel), List.mem_of_getElem? (i := 1028) (by decide +kernel), List.mem_of_getElem? (i := 1029) (by decide +kernel)⟩
theorem lw_p29 : lw_okq (⟨"OakCourt$Acts", "plainSways", "(I)I"⟩, 6) := ⟨⟨by decide +kernel, by decide +kernel⟩, List.mem_of_getElem? (i := 324) (by decide +kernel), List.mem_of_getElem? (i := 1032) (by decide +kernel), List.mem_of_getElem? (i := 1033) (by decide +kernel)⟩
theorem lw_p30 : lw_okq (⟨"OakCourt$Acts", "plainBends", "(I)I"⟩, 6) := ⟨⟨by decide +kernel, by decide +kernel⟩, List.mem_of_getElem? (i := 324) (by decide +kernel), List.mem_of_getElem? (i := 1040) (by decide +kernel), List.mem_of_getElem? (i := 1041) (by decide +kernel)⟩
theorem lw_p31 : lw_okq (⟨"OakCourt$Acts", "proppedShares", "(I)I"⟩, 6) := ⟨⟨by decide +kernel, by decide +kernel⟩, List.mem_of_getElem? (i := 324) (by decide +kernel), List.mem_of_getElem? (i := 1049) (by decide +kernel), List.mem_of_getElem? (i := 1050) (by decide +kernel)⟩
def lw_privs_2 : List (MethodName × Nat) := [(⟨"OakCourt$RuleReader", "takesValue", "(I)Z"⟩, 7), (⟨"OakCourt$RuleReader", "takesJoint", "(I)Z"⟩, 7), (⟨"OakCourt$Oak", "breakOff", "(I)I"⟩, 5), (⟨"OakCourt", "tryWithout", "(I)V"⟩, 10), (⟨"OakCourt", "seatedIfPropped", "(I)I"⟩, 10), (⟨"OakCourt", "crackingWinds", "()I"⟩, 10), (⟨"OakCourt", "isSeatable", "(I)Z"⟩, 10), (⟨"OakCourt$Seating", "seatsFrom", "(I)Z"⟩, 4), (⟨"OakCourt$Seating", "valueOf", "(II)I"⟩, 4), (⟨"OakCourt$Seating", "valueBehind", "(III)I"⟩, 4), (⟨"OakCourt$Reports", "narrow", "(LOakCourt$Oak;I)V"⟩, 5), (⟨"OakCourt", "boughOn", "(I)I"⟩, 10), (⟨"OakCourt$Acts", "begin", "(I)V"⟩, 6), (⟨"OakCourt$Acts", "plainSways", "(I)I"⟩, 6), (⟨"OakCourt$Acts", "plainBends", "(I)I"⟩, 6), (⟨"OakCourt$Acts", "proppedShares", "(I)I"⟩, 6)]
theorem lw_r2 : ∀ q ∈ lw_privs_2, lw_okq q := List.forall_mem_cons.mpr ⟨lw_p16, List.forall_mem_cons.mpr ⟨lw_p17, List.forall_mem_cons.mpr ⟨lw_p18, List.forall_mem_cons.mpr ⟨lw_p19, List.forall_mem_cons.mpr ⟨lw_p20, List.forall_mem_cons.mpr ⟨lw_p21, List.forall_mem_cons.mpr ⟨lw_p22, List.forall_mem_cons.mpr ⟨lw_p23, List.forall_mem_cons.mpr ⟨lw_p24, List.forall_mem_cons.mpr ⟨lw_p25, List.forall_mem_cons.mpr ⟨lw_p26, List.forall_mem_cons.mpr ⟨lw_p27, List.forall_mem_cons.mpr ⟨lw_p28, List.forall_mem_cons.mpr ⟨lw_p29, List.forall_mem_cons.mpr ⟨lw_p30, List.forall_mem_cons.mpr ⟨lw_p31, fun _ h => absurd h List.not_mem_nil⟩⟩⟩⟩⟩⟩⟩⟩⟩⟩⟩⟩⟩⟩⟩⟩
theorem lw_p32 : lw_okq (⟨"OakCourt$Acts", "plainShares", "(I)I"⟩, 6) := ⟨⟨by decide +kernel, by decide +kernel⟩, List.mem_of_getElem? (i := 324) (by decide +kernel), List.mem_of_getElem? (i := 1053) (by decide +kernel), List.mem_of_getElem? (i := 1054) (by decide +kernel)⟩
theorem lw_p33 : lw_okq (⟨"OakCourt$Acts", "plainTells", "(I)I"⟩, 6) := ⟨⟨by decide +kernel, by decide +kernel⟩, List.mem_of_getElem? (i := 324) (by decide +kernel), List.mem_of_getElem? (i := 1061) (by decide +kernel), List.mem_of_getElem? (i := 1062) (by decide +kernel)⟩
theorem lw_p34 : lw_okq (⟨"OakCourtModel", "isBough", "(I)Z"⟩, 37) := ⟨⟨by decide +kernel, by decide +kernel⟩, List.mem_of_getElem? (i := 1083) (by decide +kernel), List.mem_of_getElem? (i := 1209) (by decide +kernel), List.mem_of_getElem? (i := 1210) (by decide +kernel)⟩
theorem lw_p35 : lw_okq (⟨"OakCourtModel", "isBroken", "(I)Z"⟩, 37) := ⟨⟨by decide +kernel, by decide +kernel⟩, List.mem_of_getElem? (i := 1083) (by decide +kernel), List.mem_of_getElem? (i := 1218) (by decide +kernel), List.mem_of_getElem? (i := 1219) (by decide +kernel)⟩
theorem lw_p36 : lw_okq (⟨"OakCourtModel", "its", "(II)I"⟩, 37) := ⟨⟨by decide +kernel, by decide +kernel⟩, List.mem_of_getElem? (i := 1083) (by decide +kernel), List.mem_of_getElem? (i := 1222) (by decide +kernel), List.mem_of_getElem? (i := 1223) (by decide +kernel)⟩
theorem lw_p37 : lw_okq (⟨"OakCourtModel", "findAll", "()V"⟩, 37) := ⟨⟨by decide +kernel, by decide +kernel⟩, List.mem_of_getElem? (i := 1083) (by decide +kernel), List.mem_of_getElem? (i := 1234) (by decide +kernel), List.mem_of_getElem? (i := 1235) (by decide +kernel)⟩
theorem lw_p38 : lw_okq (⟨"OakCourtModel", "findHolds", "()V"⟩, 37) := ⟨⟨by decide +kernel, by decide +kernel⟩, List.mem_of_getElem? (i := 1083) (by decide +kernel), List.mem_of_getElem? (i := 1238) (by decide +kernel), List.mem_of_getElem? (i := 1239) (by decide +kernel)⟩
theorem lw_p39 : lw_okq (⟨"OakCourtModel", "holdsNow", "(I)I"⟩, 37) := ⟨⟨by decide +kernel, by decide +kernel⟩, List.mem_of_getElem? (i := 1083) (by decide +kernel), List.mem_of_getElem? (i := 1242) (by decide +kernel), List.mem_of_getElem? (i := 1243) (by decide +kernel)⟩
theorem lw_p40 : lw_okq (⟨"OakCourtModel", "isSo", "(III)Z"⟩, 37) := ⟨⟨by decide +kernel, by decide +kernel⟩, List.mem_of_getElem? (i := 1083) (by decide +kernel), List.mem_of_getElem? (i := 1249) (by decide +kernel), List.mem_of_getElem? (i := 1250) (by decide +kernel)⟩
theorem lw_p41 : lw_okq (⟨"OakCourtModel", "fact", "(II)I"⟩, 37) := ⟨⟨by decide +kernel, by decide +kernel⟩, List.mem_of_getElem? (i := 1083) (by decide +kernel), List.mem_of_getElem? (i := 1253) (by decide +kernel), List.mem_of_getElem? (i := 1254) (by decide +kernel)⟩
theorem lw_p42 : lw_okq (⟨"OakCourtModel", "findBears", "()V"⟩, 37) := ⟨⟨by decide +kernel, by decide +kernel⟩, List.mem_of_getElem? (i := 1083) (by decide +kernel), List.mem_of_getElem? (i := 1260) (by decide +kernel), List.mem_of_getElem? (i := 1261) (by decide +kernel)⟩
theorem lw_p43 : lw_okq (⟨"OakCourtModel", "seatOf", "(I)I"⟩, 37) := ⟨⟨by decide +kernel, by decide +kernel⟩, List.mem_of_getElem? (i := 1083) (by decide +kernel), List.mem_of_getElem? (i := 1264) (by decide +kernel), List.mem_of_getElem? (i := 1265) (by decide +kernel)⟩
theorem lw_p44 : lw_okq (⟨"OakCourtModel", "whose", "(II)I"⟩, 37) := ⟨⟨by decide +kernel, by decide +kernel⟩, List.mem_of_getElem? (i := 1083) (by decide +kernel), List.mem_of_getElem? (i := 1268) (by decide +kernel), List.mem_of_getElem? (i := 1269) (by decide +kernel)⟩
theorem lw_p45 : lw_okq (⟨"OakCourtModel", "loads", "(II)V"⟩, 37) := ⟨⟨by decide +kernel, by decide +kernel⟩, List.mem_of_getElem? (i := 1083) (by decide +kernel), List.mem_of_getElem? (i := 1275) (by decide +kernel), List.mem_of_getElem? (i := 1276) (by decide +kernel)⟩
theorem lw_p46 : lw_okq (⟨"OakCourtModel", "below", "(I)I"⟩, 37) := ⟨⟨by decide +kernel, by decide +kernel⟩, List.mem_of_getElem? (i := 1083) (by decide +kernel), List.mem_of_getElem? (i := 1279) (by decide +kernel), List.mem_of_getElem? (i := 1280) (by decide +kernel)⟩
theorem lw_p47 : lw_okq (⟨"OakCourtModel", "isCracking", "(I)Z"⟩, 37) := ⟨⟨by decide +kernel, by decide +kernel⟩, List.mem_of_getElem? (i := 1083) (by decide +kernel), List.mem_of_getElem? (i := 1283) (by decide +kernel), List.mem_of_getElem? (i := 1284) (by decide +kernel)⟩
def lw_privs_3 : List (MethodName × Nat) := [(⟨"OakCourt$Acts", "plainShares", "(I)I"⟩, 6), (⟨"OakCourt$Acts", "plainTells", "(I)I"⟩, 6), (⟨"OakCourtModel", "isBough", "(I)Z"⟩, 37), (⟨"OakCourtModel", "isBroken", "(I)Z"⟩, 37), (⟨"OakCourtModel", "its", "(II)I"⟩, 37), (⟨"OakCourtModel", "findAll", "()V"⟩, 37), (⟨"OakCourtModel", "findHolds", "()V"⟩, 37), (⟨"OakCourtModel", "holdsNow", "(I)I"⟩, 37), (⟨"OakCourtModel", "isSo", "(III)Z"⟩, 37), (⟨"OakCourtModel", "fact", "(II)I"⟩, 37), (⟨"OakCourtModel", "findBears", "()V"⟩, 37), (⟨"OakCourtModel", "seatOf", "(I)I"⟩, 37), (⟨"OakCourtModel", "whose", "(II)I"⟩, 37), (⟨"OakCourtModel", "loads", "(II)V"⟩, 37), (⟨"OakCourtModel", "below", "(I)I"⟩, 37), (⟨"OakCourtModel", "isCracking", "(I)Z"⟩, 37)]
theorem lw_r3 : ∀ q ∈ lw_privs_3, lw_okq q := List.forall_mem_cons.mpr ⟨lw_p32, List.forall_mem_cons.mpr ⟨lw_p33, List.forall_mem_cons.mpr ⟨lw_p34, List.forall_mem_cons.mpr ⟨lw_p35, List.forall_mem_cons.mpr ⟨lw_p36, List.forall_mem_cons.mpr ⟨lw_p37, List.forall_mem_cons.mpr ⟨lw_p38, List.forall_mem_cons.mpr ⟨lw_p39, List.forall_mem_cons.mpr ⟨lw_p40, List.forall_mem_cons.mpr ⟨lw_p41, List.forall_mem_cons.mpr ⟨lw_p42, List.forall_mem_cons.mpr ⟨lw_p43, List.forall_mem_cons.mpr ⟨lw_p44, List.forall_mem_cons.mpr ⟨lw_p45, List.forall_mem_cons.mpr ⟨lw_p46, List.forall_mem_cons.mpr ⟨lw_p47, fun _ h => absurd h List.not_mem_nil⟩⟩⟩⟩⟩⟩⟩⟩⟩⟩⟩⟩⟩⟩⟩⟩
theorem lw_p48 : lw_okq (⟨"OakCourtModel", "isPerson", "(I)Z"⟩, 37) := ⟨⟨by decide +kernel, by decide +kernel⟩, List.mem_of_getElem? (i := 1083) (by decide +kernel), List.mem_of_getElem? (i := 1308) (by decide +kernel), List.mem_of_getElem? (i := 1309) (by decide +kernel)⟩
theorem lw_p49 : lw_okq (⟨"OakCourtModel", "toldSeat", "(I)I"⟩, 37) := ⟨⟨by decide +kernel, by decide +kernel⟩, List.mem_of_getElem? (i := 1083) (by decide +kernel), List.mem_of_getElem? (i := 1313) (by decide +kernel), List.mem_of_getElem? (i := 1314) (by decide +kernel)⟩
theorem lw_p50 : lw_okq (⟨"OakCourtModel", "seats", "(II)V"⟩, 37) := ⟨⟨by decide +kernel, by decide +kernel⟩, List.mem_of_getElem? (i := 1083) (by decide +kernel), List.mem_of_getElem? (i := 1321) (by decide +kernel), List.mem_of_getElem? (i := 1322) (by decide +kernel)⟩
theorem lw_p51 : lw_okq (⟨"OakCourtModel", "crackSet", "()I"⟩, 37) := ⟨⟨by decide +kernel, by decide +kernel⟩, List.mem_of_getElem? (i := 1083) (by decide +kernel), List.mem_of_getElem? (i := 1333) (by decide +kernel), List.mem_of_getElem? (i := 1334) (by decide +kernel)⟩
theorem lw_p52 : lw_okq (⟨"OakCourtModel", "worstOf", "()I"⟩, 37) := ⟨⟨by decide +kernel, by decide +kernel⟩, List.mem_of_getElem? (i := 1083) (by decide +kernel), List.mem_of_getElem? (i := 1341) (by decide +kernel), List.mem_of_getElem? (i := 1342) (by decide +kernel)⟩
theorem lw_p53 : lw_okq (⟨"OakCourtModel", "falls", "()I"⟩, 37) := ⟨⟨by decide +kernel, by decide +kernel⟩, List.mem_of_getElem? (i := 1083) (by decide +kernel), List.mem_of_getElem? (i := 1349) (by decide +kernel), List.mem_of_getElem? (i := 1350) (by decide +kernel)⟩
theorem lw_p54 : lw_okq (⟨"OakCourtModel", "isAbove", "(II)Z"⟩, 37) := ⟨⟨by decide +kernel, by decide +kernel⟩, List.mem_of_getElem? (i := 1083) (by decide +kernel), List.mem_of_getElem? (i := 1353) (by decide +kernel), List.mem_of_getElem? (i := 1354) (by decide +kernel)⟩
theorem lw_p55 : lw_okq (⟨"OakCourtModel", "puts", "()V"⟩, 37) := ⟨⟨by decide +kernel, by decide +kernel⟩, List.mem_of_getElem? (i := 1083) (by decide +kernel), List.mem_of_getElem? (i := 1361) (by decide +kernel), List.mem_of_getElem? (i := 1362) (by decide +kernel)⟩
theorem lw_p56 : lw_okq (⟨"OakCourtModel", "putsBack", "()V"⟩, 37) := ⟨⟨by decide +kernel, by decide +kernel⟩, List.mem_of_getElem? (i := 1083) (by decide +kernel), List.mem_of_getElem? (i := 1365) (by decide +kernel), List.mem_of_getElem? (i := 1366) (by decide +kernel)⟩
theorem lw_p57 : lw_okq (⟨"OakCourtModel", "findStanding", "()V"⟩, 37) := ⟨⟨by decide +kernel, by decide +kernel⟩, List.mem_of_getElem? (i := 1083) (by decide +kernel), List.mem_of_getElem? (i := 1373) (by decide +kernel), List.mem_of_getElem? (i := 1374) (by decide +kernel)⟩
theorem lw_p58 : lw_okq (⟨"OakCourtModel", "roomOf", "(I)I"⟩, 37) := ⟨⟨by decide +kernel, by decide +kernel⟩, List.mem_of_getElem? (i := 1083) (by decide +kernel), List.mem_of_getElem? (i := 1385) (by decide +kernel), List.mem_of_getElem? (i := 1386) (by decide +kernel)⟩
theorem lw_p59 : lw_okq (⟨"OakCourtModel", "isSafe", "()Z"⟩, 37) := ⟨⟨by decide +kernel, by decide +kernel⟩, List.mem_of_getElem? (i := 1083) (by decide +kernel), List.mem_of_getElem? (i := 1397) (by decide +kernel), List.mem_of_getElem? (i := 1398) (by decide +kernel)⟩
theorem lw_p60 : lw_okq (⟨"OakCourtModel", "leastOf", "(IZ)I"⟩, 37) := ⟨⟨by decide +kernel, by decide +kernel⟩, List.mem_of_getElem? (i := 1083) (by decide +kernel), List.mem_of_getElem? (i := 1409) (by decide +kernel), List.mem_of_getElem? (i := 1410) (by decide +kernel)⟩
theorem lw_p61 : lw_okq (⟨"OakCourtModel", "isParty", "(I)Z"⟩, 37) := ⟨⟨by decide +kernel, by decide +kernel⟩, List.mem_of_getElem? (i := 1083) (by decide +kernel), List.mem_of_getElem? (i := 1421) (by decide +kernel), List.mem_of_getElem? (i := 1422) (by decide +kernel)⟩
theorem lw_p62 : lw_okq (⟨"OakCourtModel", "findSeating", "(I)Z"⟩, 37) := ⟨⟨by decide +kernel, by decide +kernel⟩, List.mem_of_getElem? (i := 1083) (by decide +kernel), List.mem_of_getElem? (i := 1429) (by decide +kernel), List.mem_of_getElem? (i := 1430) (by decide +kernel)⟩
theorem lw_p63 : lw_okq (⟨"OakCourtModel", "canSeat", "(I)Z"⟩, 37) := ⟨⟨by decide +kernel, by decide +kernel⟩, List.mem_of_getElem? (i := 1083) (by decide +kernel), List.mem_of_getElem? (i := 1436) (by decide +kernel), List.mem_of_getElem? (i := 1437) (by decide +kernel)⟩
def lw_privs_4 : List (MethodName × Nat) := [(⟨"OakCourtModel", "isPerson", "(I)Z"⟩, 37), (⟨"OakCourtModel", "toldSeat", "(I)I"⟩, 37), (⟨"OakCourtModel", "seats", "(II)V"⟩, 37), (⟨"OakCourtModel", "crackSet", "()I"⟩, 37), (⟨"OakCourtModel", "worstOf", "()I"⟩, 37), (⟨"OakCourtModel", "falls", "()I"⟩, 37), (⟨"OakCourtModel", "isAbove", "(II)Z"⟩, 37), (⟨"OakCourtModel", "puts", "()V"⟩, 37), (⟨"OakCourtModel", "putsBack", "()V"⟩, 37), (⟨"OakCourtModel", "findStanding", "()V"⟩, 37), (⟨"OakCourtModel", "roomOf", "(I)I"⟩, 37), (⟨"OakCourtModel", "isSafe", "()Z"⟩, 37), (⟨"OakCourtModel", "leastOf", "(IZ)I"⟩, 37), (⟨"OakCourtModel", "isParty", "(I)Z"⟩, 37), (⟨"OakCourtModel", "findSeating", "(I)Z"⟩, 37), (⟨"OakCourtModel", "canSeat", "(I)Z"⟩, 37)]
theorem lw_r4 : ∀ q ∈ lw_privs_4, lw_okq q := List.forall_mem_cons.mpr ⟨lw_p48, List.forall_mem_cons.mpr ⟨lw_p49, List.forall_mem_cons.mpr ⟨lw_p50, List.forall_mem_cons.mpr ⟨lw_p51, List.forall_mem_cons.mpr ⟨lw_p52, List.forall_mem_cons.mpr ⟨lw_p53, List.forall_mem_cons.mpr ⟨lw_p54, List.forall_mem_cons.mpr ⟨lw_p55, List.forall_mem_cons.mpr ⟨lw_p56, List.forall_mem_cons.mpr ⟨lw_p57, List.forall_mem_cons.mpr ⟨lw_p58, List.forall_mem_cons.mpr ⟨lw_p59, List.forall_mem_cons.mpr ⟨lw_p60, List.forall_mem_cons.mpr ⟨lw_p61, List.forall_mem_cons.mpr ⟨lw_p62, List.forall_mem_cons.mpr ⟨lw_p63, fun _ h => absurd h List.not_mem_nil⟩⟩⟩⟩⟩⟩⟩⟩⟩⟩⟩⟩⟩⟩⟩⟩
theorem lw_p64 : lw_okq (⟨"OakCourtModel", "valueOf", "(II)I"⟩, 37) := ⟨⟨by decide +kernel, by decide +kernel⟩, List.mem_of_getElem? (i := 1083) (by decide +kernel), List.mem_of_getElem? (i := 1452) (by decide +kernel), List.mem_of_getElem? (i := 1453) (by decide +kernel)⟩
theorem lw_p65 : lw_okq (⟨"OakCourtModel", "idler", "(I)I"⟩, 37) := ⟨⟨by decide +kernel, by decide +kernel⟩, List.mem_of_getElem? (i := 1083) (by decide +kernel), List.mem_of_getElem? (i := 1456) (by decide +kernel), List.mem_of_getElem? (i := 1457) (by decide +kernel)⟩
theorem lw_p66 : lw_okq (⟨"OakCourtModel", "leadsTo", "(IIII)I"⟩, 37) := ⟨⟨by decide +kernel, by decide +kernel⟩, List.mem_of_getElem? (i := 1083) (by decide +kernel), List.mem_of_getElem? (i := 1460) (by decide +kernel), List.mem_of_getElem? (i := 1461) (by decide +kernel)⟩
theorem lw_p67 : lw_okq (⟨"OakCourtModel", "findFits", "(I)V"⟩, 37) := ⟨⟨by decide +kernel, by decide +kernel⟩, List.mem_of_getElem? (i := 1083) (by decide +kernel), List.mem_of_getElem? (i := 1483) (by decide +kernel), List.mem_of_getElem? (i := 1484) (by decide +kernel)⟩
theorem lw_p68 : lw_okq (⟨"OakCourtModel", "isCracked", "(II)Z"⟩, 37) := ⟨⟨by decide +kernel, by decide +kernel⟩, List.mem_of_getElem? (i := 1083) (by decide +kernel), List.mem_of_getElem? (i := 1487) (by decide +kernel), List.mem_of_getElem? (i := 1488) (by decide +kernel)⟩
theorem lw_p69 : lw_okq (⟨"OakCourtModel", "isRow", "(II)Z"⟩, 37) := ⟨⟨by decide +kernel, by decide +kernel⟩, List.mem_of_getElem? (i := 1083) (by decide +kernel), List.mem_of_getElem? (i := 1518) (by decide +kernel), List.mem_of_getElem? (i := 1519) (by decide +kernel)⟩
theorem lw_p70 : lw_okq (⟨"OakCourtModel", "token", "()V"⟩, 37) := ⟨⟨by decide +kernel, by decide +kernel⟩, List.mem_of_getElem? (i := 1083) (by decide +kernel), List.mem_of_getElem? (i := 1540) (by decide +kernel), List.mem_of_getElem? (i := 1541) (by decide +kernel)⟩
theorem lw_p71 : lw_okq (⟨"OakCourtModel", "byteAt", "(I)I"⟩, 37) := ⟨⟨by decide +kernel, by decide +kernel⟩, List.mem_of_getElem? (i := 1083) (by decide +kernel), List.mem_of_getElem? (i := 1544) (by decide +kernel), List.mem_of_getElem? (i := 1545) (by decide +kernel)⟩
theorem lw_p72 : lw_okq (⟨"OakCourtModel", "rule", "()V"⟩, 37) := ⟨⟨by decide +kernel, by decide +kernel⟩, List.mem_of_getElem? (i := 1083) (by decide +kernel), List.mem_of_getElem? (i := 1558) (by decide +kernel), List.mem_of_getElem? (i := 1559) (by decide +kernel)⟩
theorem lw_p73 : lw_okq (⟨"OakCourtModel", "kindHere", "()I"⟩, 37) := ⟨⟨by decide +kernel, by decide +kernel⟩, List.mem_of_getElem? (i := 1083) (by decide +kernel), List.mem_of_getElem? (i := 1562) (by decide +kernel), List.mem_of_getElem? (i := 1563) (by decide +kernel)⟩
theorem lw_p74 : lw_okq (⟨"OakCourtModel", "word", "()J"⟩, 37) := ⟨⟨by decide +kernel, by decide +kernel⟩, List.mem_of_getElem? (i := 1083) (by decide +kernel), List.mem_of_getElem? (i := 1566) (by decide +kernel), List.mem_of_getElem? (i := 1567) (by decide +kernel)⟩
theorem lw_p75 : lw_okq (⟨"OakCourtModel", "needs", "(Z)V"⟩, 37) := ⟨⟨by decide +kernel, by decide +kernel⟩, List.mem_of_getElem? (i := 1083) (by decide +kernel), List.mem_of_getElem? (i := 1578) (by decide +kernel), List.mem_of_getElem? (i := 1579) (by decide +kernel)⟩
theorem lw_p76 : lw_okq (⟨"OakCourtModel", "condition", "()V"⟩, 37) := ⟨⟨by decide +kernel, by decide +kernel⟩, List.mem_of_getElem? (i := 1083) (by decide +kernel), List.mem_of_getElem? (i := 1583) (by decide +kernel), List.mem_of_getElem? (i := 1584) (by decide +kernel)⟩
theorem lw_p77 : lw_okq (⟨"OakCourtModel", "all", "()V"⟩, 37) := ⟨⟨by decide +kernel, by decide +kernel⟩, List.mem_of_getElem? (i := 1083) (by decide +kernel), List.mem_of_getElem? (i := 1587) (by decide +kernel), List.mem_of_getElem? (i := 1588) (by decide +kernel)⟩
theorem lw_p78 : lw_okq (⟨"OakCourtModel", "one", "()V"⟩, 37) := ⟨⟨by decide +kernel, by decide +kernel⟩, List.mem_of_getElem? (i := 1083) (by decide +kernel), List.mem_of_getElem? (i := 1591) (by decide +kernel), List.mem_of_getElem? (i := 1592) (by decide +kernel)⟩
theorem lw_p79 : lw_okq (⟨"OakCourtModel", "comparison", "()V"⟩, 37) := ⟨⟨by decide +kernel, by decide +kernel⟩, List.mem_of_getElem? (i := 1083) (by decide +kernel), List.mem_of_getElem? (i := 1596) (by decide +kernel), List.mem_of_getElem? (i := 1597) (by decide +kernel)⟩
def lw_privs_5 : List (MethodName × Nat) := [(⟨"OakCourtModel", "valueOf", "(II)I"⟩, 37), (⟨"OakCourtModel", "idler", "(I)I"⟩, 37), (⟨"OakCourtModel", "leadsTo", "(IIII)I"⟩, 37), (⟨"OakCourtModel", "findFits", "(I)V"⟩, 37), (⟨"OakCourtModel", "isCracked", "(II)Z"⟩, 37), (⟨"OakCourtModel", "isRow", "(II)Z"⟩, 37), (⟨"OakCourtModel", "token", "()V"⟩, 37), (⟨"OakCourtModel", "byteAt", "(I)I"⟩, 37), (⟨"OakCourtModel", "rule", "()V"⟩, 37), (⟨"OakCourtModel", "kindHere", "()I"⟩, 37), (⟨"OakCourtModel", "word", "()J"⟩, 37), (⟨"OakCourtModel", "needs", "(Z)V"⟩, 37), (⟨"OakCourtModel", "condition", "()V"⟩, 37), (⟨"OakCourtModel", "all", "()V"⟩, 37), (⟨"OakCourtModel", "one", "()V"⟩, 37), (⟨"OakCourtModel", "comparison", "()V"⟩, 37)]
theorem lw_r5 : ∀ q ∈ lw_privs_5, lw_okq q := List.forall_mem_cons.mpr ⟨lw_p64, List.forall_mem_cons.mpr ⟨lw_p65, List.forall_mem_cons.mpr ⟨lw_p66, List.forall_mem_cons.mpr ⟨lw_p67, List.forall_mem_cons.mpr ⟨lw_p68, List.forall_mem_cons.mpr ⟨lw_p69, List.forall_mem_cons.mpr ⟨lw_p70, List.forall_mem_cons.mpr ⟨lw_p71, List.forall_mem_cons.mpr ⟨lw_p72, List.forall_mem_cons.mpr ⟨lw_p73, List.forall_mem_cons.mpr ⟨lw_p74, List.forall_mem_cons.mpr ⟨lw_p75, List.forall_mem_cons.mpr ⟨lw_p76, List.forall_mem_cons.mpr ⟨lw_p77, List.forall_mem_cons.mpr ⟨lw_p78, List.forall_mem_cons.mpr ⟨lw_p79, fun _ h => absurd h List.not_mem_nil⟩⟩⟩⟩⟩⟩⟩⟩⟩⟩⟩⟩⟩⟩⟩⟩
theorem lw_p80 : lw_okq (⟨"OakCourtModel", "valueHere", "()V"⟩, 37) := ⟨⟨by decide +kernel, by decide +kernel⟩, List.mem_of_getElem? (i := 1083) (by decide +kernel), List.mem_of_getElem? (i := 1600) (by decide +kernel), List.mem_of_getElem? (i := 1601) (by decide +kernel)⟩
theorem lw_p81 : lw_okq (⟨"OakCourtModel", "factHere", "()I"⟩, 37) := ⟨⟨by decide +kernel, by decide +kernel⟩, List.mem_of_getElem? (i := 1083) (by decide +kernel), List.mem_of_getElem? (i := 1604) (by decide +kernel), List.mem_of_getElem? (i := 1605) (by decide +kernel)⟩
theorem lw_p82 : lw_okq (⟨"OakCourtModel", "writes", "(I)V"⟩, 37) := ⟨⟨by decide +kernel, by decide +kernel⟩, List.mem_of_getElem? (i := 1083) (by decide +kernel), List.mem_of_getElem? (i := 1613) (by decide +kernel), List.mem_of_getElem? (i := 1614) (by decide +kernel)⟩
theorem lw_p83 : lw_okq (⟨"OakCourtModel", "number", "(I)V"⟩, 37) := ⟨⟨by decide +kernel, by decide +kernel⟩, List.mem_of_getElem? (i := 1083) (by decide +kernel), List.mem_of_getElem? (i := 1617) (by decide +kernel), List.mem_of_getElem? (i := 1618) (by decide +kernel)⟩
theorem lw_p84 : lw_okq (⟨"OakCourtModel", "wrong", "(II)I"⟩, 37) := ⟨⟨by decide +kernel, by decide +kernel⟩, List.mem_of_getElem? (i := 1083) (by decide +kernel), List.mem_of_getElem? (i := 1645) (by decide +kernel), List.mem_of_getElem? (i := 1646) (by decide +kernel)⟩
theorem lw_p85 : lw_okq (⟨"OakCourtModel", "onShelf", "(I)I"⟩, 37) := ⟨⟨by decide +kernel, by decide +kernel⟩, List.mem_of_getElem? (i := 1083) (by decide +kernel), List.mem_of_getElem? (i := 1665) (by decide +kernel), List.mem_of_getElem? (i := 1666) (by decide +kernel)⟩
theorem lw_p86 : lw_okq (⟨"OakCourtModel", "sways", "(I)I"⟩, 37) := ⟨⟨by decide +kernel, by decide +kernel⟩, List.mem_of_getElem? (i := 1083) (by decide +kernel), List.mem_of_getElem? (i := 1673) (by decide +kernel), List.mem_of_getElem? (i := 1674) (by decide +kernel)⟩
theorem lw_p87 : lw_okq (⟨"OakCourtModel", "runs", "(I)V"⟩, 37) := ⟨⟨by decide +kernel, by decide +kernel⟩, List.mem_of_getElem? (i := 1083) (by decide +kernel), List.mem_of_getElem? (i := 1677) (by decide +kernel), List.mem_of_getElem? (i := 1678) (by decide +kernel)⟩
theorem lw_p88 : lw_okq (⟨"OakCourtModel", "bends", "(I)I"⟩, 37) := ⟨⟨by decide +kernel, by decide +kernel⟩, List.mem_of_getElem? (i := 1083) (by decide +kernel), List.mem_of_getElem? (i := 1681) (by decide +kernel), List.mem_of_getElem? (i := 1682) (by decide +kernel)⟩
theorem lw_p89 : lw_okq (⟨"OakCourtModel", "shares", "(I)I"⟩, 37) := ⟨⟨by decide +kernel, by decide +kernel⟩, List.mem_of_getElem? (i := 1083) (by decide +kernel), List.mem_of_getElem? (i := 1685) (by decide +kernel), List.mem_of_getElem? (i := 1686) (by decide +kernel)⟩
theorem lw_p90 : lw_okq (⟨"OakCourtModel", "parts", "(I)I"⟩, 37) := ⟨⟨by decide +kernel, by decide +kernel⟩, List.mem_of_getElem? (i := 1083) (by decide +kernel), List.mem_of_getElem? (i := 1689) (by decide +kernel), List.mem_of_getElem? (i := 1690) (by decide +kernel)⟩
theorem lw_p91 : lw_okq (⟨"OakCourtModel", "tells", "(I)I"⟩, 37) := ⟨⟨by decide +kernel, by decide +kernel⟩, List.mem_of_getElem? (i := 1083) (by decide +kernel), List.mem_of_getElem? (i := 1693) (by decide +kernel), List.mem_of_getElem? (i := 1694) (by decide +kernel)⟩
theorem lw_p92 : lw_okq (⟨"OakCourtModel", "traced", "()I"⟩, 37) := ⟨⟨by decide +kernel, by decide +kernel⟩, List.mem_of_getElem? (i := 1083) (by decide +kernel), List.mem_of_getElem? (i := 1701) (by decide +kernel), List.mem_of_getElem? (i := 1702) (by decide +kernel)⟩
def lw_privs_6 : List (MethodName × Nat) := [(⟨"OakCourtModel", "valueHere", "()V"⟩, 37), (⟨"OakCourtModel", "factHere", "()I"⟩, 37), (⟨"OakCourtModel", "writes", "(I)V"⟩, 37), (⟨"OakCourtModel", "number", "(I)V"⟩, 37), (⟨"OakCourtModel", "wrong", "(II)I"⟩, 37), (⟨"OakCourtModel", "onShelf", "(I)I"⟩, 37), (⟨"OakCourtModel", "sways", "(I)I"⟩, 37), (⟨"OakCourtModel", "runs", "(I)V"⟩, 37), (⟨"OakCourtModel", "bends", "(I)I"⟩, 37), (⟨"OakCourtModel", "shares", "(I)I"⟩, 37), (⟨"OakCourtModel", "parts", "(I)I"⟩, 37), (⟨"OakCourtModel", "tells", "(I)I"⟩, 37), (⟨"OakCourtModel", "traced", "()I"⟩, 37)]
theorem lw_r6 : ∀ q ∈ lw_privs_6, lw_okq q := List.forall_mem_cons.mpr ⟨lw_p80, List.forall_mem_cons.mpr ⟨lw_p81, List.forall_mem_cons.mpr ⟨lw_p82, List.forall_mem_cons.mpr ⟨lw_p83, List.forall_mem_cons.mpr ⟨lw_p84, List.forall_mem_cons.mpr ⟨lw_p85, List.forall_mem_cons.mpr ⟨lw_p86, List.forall_mem_cons.mpr ⟨lw_p87, List.forall_mem_cons.mpr ⟨lw_p88, List.forall_mem_cons.mpr ⟨lw_p89, List.forall_mem_cons.mpr ⟨lw_p90, List.forall_mem_cons.mpr ⟨lw_p91, List.forall_mem_cons.mpr ⟨lw_p92, fun _ h => absurd h List.not_mem_nil⟩⟩⟩⟩⟩⟩⟩⟩⟩⟩⟩⟩⟩
def lw_privs : List (MethodName × Nat) := lw_privs_1 ++ (lw_privs_2 ++ (lw_privs_3 ++ (lw_privs_4 ++ (lw_privs_5 ++ (lw_privs_6)))))
def lw_tbl : List Cond := k2_sels lw_privs ++ tables_1
theorem lw_privs_ok : ∀ q ∈ lw_privs, lw_okq q := by
  show ∀ q ∈ lw_privs_1 ++ (lw_privs_2 ++ (lw_privs_3 ++ (lw_privs_4 ++ (lw_privs_5 ++ (lw_privs_6))))), lw_okq q
  exact List.forall_mem_append.mpr ⟨lw_r1, List.forall_mem_append.mpr ⟨lw_r2, List.forall_mem_append.mpr ⟨lw_r3, List.forall_mem_append.mpr ⟨lw_r4, List.forall_mem_append.mpr ⟨lw_r5, lw_r6⟩⟩⟩⟩⟩
end
section
def RX0 : String := "OakCourt$Acts"
def TX0 : u_T := fun k => match k with
  | 0 => ("OakCourt$Acts", "ran", "I", false)
  | 1 => ("OakCourt$Acts", "bodies", "[I", true)
  | 2 => ("OakCourt$Acts", "parted", "Z", false)
  | 3 => ("OakCourt$Acts", "kind", "I", false)
  | 4 => ("OakCourt$Acts", "n", "I", false)
  | _ => ("OakCourt$Acts", "a", "I", false)
def tyX0 : Nat → FieldType := fun k => match k with
  | 0 => .int
  | 1 => .array .int
  | 2 => .boolean
  | 3 => .int
  | 4 => .int
  | _ => .int
abbrev wsX00 : List Cond := u_ws RX0 TX0 6
theorem nmX0 : ∀ a, a < 6 → ∀ b, b < 6 → a ≠ b → (TX0 a).2.1 ≠ (TX0 b).2.1 := by decide +kernel
theorem tyX0_ok : ∀ k, k < 6 → parseFieldDescriptor (TX0 k).2.2.1 = some (tyX0 k) := by decide +kernel
abbrev cX0_init : ByteArray := prog_2_method_1_code
def yX0_init : MethodName := ⟨RX0, "<init>", "()V"⟩
abbrev cX0_take : ByteArray := prog_2_method_2_code
def yX0_take : MethodName := ⟨RX0, "take", "(III)V"⟩
abbrev cX0_begin : ByteArray := prog_2_method_3_code
def yX0_begin : MethodName := ⟨RX0, "begin", "(I)V"⟩
abbrev cX0_sways : ByteArray := prog_2_method_4_code
def yX0_sways : MethodName := ⟨RX0, "sways", "(I)I"⟩
abbrev cX0_bends : ByteArray := prog_2_method_5_code
def yX0_bends : MethodName := ⟨RX0, "bends", "(I)I"⟩
abbrev cX0_shares : ByteArray := prog_2_method_6_code
def yX0_shares : MethodName := ⟨RX0, "shares", "(I)I"⟩
abbrev cX0_tells : ByteArray := prog_2_method_7_code
def yX0_tells : MethodName := ⟨RX0, "tells", "(I)I"⟩
abbrev cX0_plainSways : ByteArray := prog_2_method_8_code
def yX0_plainSways : MethodName := ⟨RX0, "plainSways", "(I)I"⟩
abbrev cX0_plainBends : ByteArray := prog_2_method_9_code
def yX0_plainBends : MethodName := ⟨RX0, "plainBends", "(I)I"⟩
abbrev cX0_proppedShares : ByteArray := prog_2_method_10_code
def yX0_proppedShares : MethodName := ⟨RX0, "proppedShares", "(I)I"⟩
abbrev cX0_plainShares : ByteArray := prog_2_method_11_code
def yX0_plainShares : MethodName := ⟨RX0, "plainShares", "(I)I"⟩
abbrev cX0_plainTells : ByteArray := prog_2_method_12_code
def yX0_plainTells : MethodName := ⟨RX0, "plainTells", "(I)I"⟩
def RX1 : String := "OakCourt$Boughs"
def TX1 : u_T := fun k => match k with
  | 0 => ("OakCourt$Boughs", "count", "I", false)
  | 1 => ("OakCourt$Boughs", "kinds", "[I", true)
  | 2 => ("OakCourt$Boughs", "ons", "[I", true)
  | 3 => ("OakCourt$Boughs", "lengths", "[I", true)
  | 4 => ("OakCourt$Boughs", "holds", "[I", true)
  | 5 => ("OakCourt$Boughs", "paths", "[I", true)
  | 6 => ("OakCourt$Boughs", "broken", "I", false)
  | 7 => ("OakCourt$Boughs", "sap", "I", false)
  | 8 => ("OakCourt$Boughs", "wind", "I", false)
  | _ => ("OakCourt$Boughs", "told", "LOakCourt$Rules;", true)
def tyX1 : Nat → FieldType := fun k => match k with
  | 0 => .int
  | 1 => .array .int
  | 2 => .array .int
  | 3 => .array .int
  | 4 => .array .int
  | 5 => .array .int
  | 6 => .int
  | 7 => .int
  | 8 => .int
  | _ => .object "OakCourt$Rules"
abbrev wsX10 : List Cond := u_ws RX1 TX1 10
theorem nmX1 : ∀ a, a < 10 → ∀ b, b < 10 → a ≠ b → (TX1 a).2.1 ≠ (TX1 b).2.1 := by decide +kernel
theorem tyX1_ok : ∀ k, k < 10 → parseFieldDescriptor (TX1 k).2.2.1 = some (tyX1 k) := by decide +kernel
abbrev cX1_init : ByteArray := prog_3_method_1_code
def yX1_init : MethodName := ⟨RX1, "<init>", "()V"⟩
abbrev cX1_copyFrom : ByteArray := prog_3_method_2_code
def yX1_copyFrom : MethodName := ⟨RX1, "copyFrom", "(LOakCourt$Boughs;)V"⟩
abbrev cX1_grow : ByteArray := prog_3_method_3_code
def yX1_grow : MethodName := ⟨RX1, "grow", "(IIII)I"⟩
abbrev cX1_isThere : ByteArray := prog_3_method_4_code
def yX1_isThere : MethodName := ⟨RX1, "isThere", "(I)Z"⟩
abbrev cX1_isWhole : ByteArray := prog_3_method_5_code
def yX1_isWhole : MethodName := ⟨RX1, "isWhole", "(I)Z"⟩
abbrev cX1_isAbove : ByteArray := prog_3_method_6_code
def yX1_isAbove : MethodName := ⟨RX1, "isAbove", "(II)Z"⟩
abbrev cX1_holdsNow : ByteArray := prog_3_method_7_code
def yX1_holdsNow : MethodName := ⟨RX1, "holdsNow", "(I)I"⟩
def RX2 : String := "OakCourt$Host"
def TX2 : u_T := fun k => match k with
  | 0 => ("OakCourt$Host", "sorts", "[I", true)
  | 1 => ("OakCourt$Host", "sizes", "[I", true)
  | 2 => ("OakCourt$Host", "items", "[[J", true)
  | 3 => ("OakCourt$Host", "held", "[I", true)
  | 4 => ("OakCourt$Host", "numbers", "[I", true)
  | _ => ("OakCourt$Host", "rowSorts", "[I", true)
def tyX2 : Nat → FieldType := fun k => match k with
  | 0 => .array .int
  | 1 => .array .int
  | 2 => .array (.array .long)
  | 3 => .array .int
  | 4 => .array .int
  | _ => .array .int
abbrev wsX20 : List Cond := u_ws RX2 TX2 6
theorem nmX2 : ∀ a, a < 6 → ∀ b, b < 6 → a ≠ b → (TX2 a).2.1 ≠ (TX2 b).2.1 := by decide +kernel
theorem tyX2_ok : ∀ k, k < 6 → parseFieldDescriptor (TX2 k).2.2.1 = some (tyX2 k) := by decide +kernel
abbrev cX2_init : ByteArray := prog_4_method_1_code
def yX2_init : MethodName := ⟨RX2, "<init>", "()V"⟩
abbrev cX2_lay : ByteArray := prog_4_method_2_code
def yX2_lay : MethodName := ⟨RX2, "lay", "(III)V"⟩
abbrev cX2_refusalOf : ByteArray := prog_4_method_3_code
def yX2_refusalOf : MethodName := ⟨RX2, "refusalOf", "(II)I"⟩
abbrev cX2_hasItem : ByteArray := prog_4_method_4_code
def yX2_hasItem : MethodName := ⟨RX2, "hasItem", "(II)Z"⟩
abbrev cX2_shelveBough : ByteArray := prog_4_method_5_code
def yX2_shelveBough : MethodName := ⟨RX2, "shelveBough", "(II)V"⟩
abbrev cX2_shelveRow : ByteArray := prog_4_method_6_code
def yX2_shelveRow : MethodName := ⟨RX2, "shelveRow", "(II)V"⟩
abbrev cX2_clear : ByteArray := prog_4_method_7_code
def yX2_clear : MethodName := ⟨RX2, "clear", "(I)V"⟩
abbrev cX2_isBough : ByteArray := prog_4_method_8_code
def yX2_isBough : MethodName := ⟨RX2, "isBough", "(I)Z"⟩
abbrev cX2_isRow : ByteArray := prog_4_method_9_code
def yX2_isRow : MethodName := ⟨RX2, "isRow", "(I)Z"⟩
def RX3 : String := "OakCourt$Oak"
def TX3 : u_T := fun k => match k with
  | 0 => ("OakCourt$Oak", "boughs", "LOakCourt$Boughs;", true)
  | 1 => ("OakCourt$Oak", "people", "LOakCourt$People;", true)
  | 2 => ("OakCourt$Oak", "reports", "LOakCourt$Reports;", true)
  | 3 => ("OakCourt$Oak", "z", "I", false)
  | _ => ("OakCourt$Oak", "spare", "[I", true)
def tyX3 : Nat → FieldType := fun k => match k with
  | 0 => .object "OakCourt$Boughs"
  | 1 => .object "OakCourt$People"
  | 2 => .object "OakCourt$Reports"
  | 3 => .int
  | _ => .array .int
abbrev wsX30 : List Cond := u_ws RX3 TX3 5
theorem nmX3 : ∀ a, a < 5 → ∀ b, b < 5 → a ≠ b → (TX3 a).2.1 ≠ (TX3 b).2.1 := by decide +kernel
theorem tyX3_ok : ∀ k, k < 5 → parseFieldDescriptor (TX3 k).2.2.1 = some (tyX3 k) := by decide +kernel
abbrev cX3_init : ByteArray := prog_5_method_1_code
def yX3_init : MethodName := ⟨RX3, "<init>", "()V"⟩
abbrev cX3_copyFrom : ByteArray := prog_5_method_2_code
def yX3_copyFrom : MethodName := ⟨RX3, "copyFrom", "(LOakCourt$Oak;)V"⟩
abbrev cX3_bears : ByteArray := prog_5_method_3_code
def yX3_bears : MethodName := ⟨RX3, "bears", "(I)I"⟩
abbrev cX3_measure : ByteArray := prog_5_method_4_code
def yX3_measure : MethodName := ⟨RX3, "measure", "()V"⟩
abbrev cX3_load : ByteArray := prog_5_method_5_code
def yX3_load : MethodName := ⟨RX3, "load", "(II)V"⟩
abbrev cX3_cracking : ByteArray := prog_5_method_6_code
def yX3_cracking : MethodName := ⟨RX3, "cracking", "()I"⟩
abbrev cX3_stateOf : ByteArray := prog_5_method_7_code
def yX3_stateOf : MethodName := ⟨RX3, "stateOf", "(I)I"⟩
abbrev cX3_leastSpare : ByteArray := prog_5_method_8_code
def yX3_leastSpare : MethodName := ⟨RX3, "leastSpare", "()I"⟩
abbrev cX3_roomOn : ByteArray := prog_5_method_9_code
def yX3_roomOn : MethodName := ⟨RX3, "roomOn", "(I)I"⟩
abbrev cX3_breakDown : ByteArray := prog_5_method_10_code
def yX3_breakDown : MethodName := ⟨RX3, "breakDown", "()I"⟩
abbrev cX3_breakOff : ByteArray := prog_5_method_11_code
def yX3_breakOff : MethodName := ⟨RX3, "breakOff", "(I)I"⟩
def RX4 : String := "OakCourt$People"
def TX4 : u_T := fun k => match k with
  | 0 => ("OakCourt$People", "count", "I", false)
  | 1 => ("OakCourt$People", "weights", "[I", true)
  | 2 => ("OakCourt$People", "sides", "[I", true)
  | _ => ("OakCourt$People", "seats", "[I", true)
def tyX4 : Nat → FieldType := fun k => match k with
  | 0 => .int
  | 1 => .array .int
  | 2 => .array .int
  | _ => .array .int
abbrev wsX40 : List Cond := u_ws RX4 TX4 4
theorem nmX4 : ∀ a, a < 4 → ∀ b, b < 4 → a ≠ b → (TX4 a).2.1 ≠ (TX4 b).2.1 := by decide +kernel
theorem tyX4_ok : ∀ k, k < 4 → parseFieldDescriptor (TX4 k).2.2.1 = some (tyX4 k) := by decide +kernel
abbrev cX4_init : ByteArray := prog_6_method_1_code
def yX4_init : MethodName := ⟨RX4, "<init>", "()V"⟩
abbrev cX4_copyFrom : ByteArray := prog_6_method_2_code
def yX4_copyFrom : MethodName := ⟨RX4, "copyFrom", "(LOakCourt$People;)V"⟩
abbrev cX4_join : ByteArray := prog_6_method_3_code
def yX4_join : MethodName := ⟨RX4, "join", "(II)I"⟩
abbrev cX4_isThere : ByteArray := prog_6_method_4_code
def yX4_isThere : MethodName := ⟨RX4, "isThere", "(I)Z"⟩
abbrev cX4_seatedWeight : ByteArray := prog_6_method_5_code
def yX4_seatedWeight : MethodName := ⟨RX4, "seatedWeight", "(I)I"⟩
abbrev cX4_firstUnseated : ByteArray := prog_6_method_6_code
def yX4_firstUnseated : MethodName := ⟨RX4, "firstUnseated", "(I)I"⟩
def RX5 : String := "OakCourt$Reports"
def TX5 : u_T := fun k => match k with
  | 0 => ("OakCourt$Reports", "count", "I", false)
  | 1 => ("OakCourt$Reports", "boughs", "[I", true)
  | 2 => ("OakCourt$Reports", "cracked", "[I", true)
  | 3 => ("OakCourt$Reports", "least", "I", false)
  | _ => ("OakCourt$Reports", "greatest", "I", false)
def tyX5 : Nat → FieldType := fun k => match k with
  | 0 => .int
  | 1 => .array .int
  | 2 => .array .int
  | 3 => .int
  | _ => .int
abbrev wsX50 : List Cond := u_ws RX5 TX5 5
theorem nmX5 : ∀ a, a < 5 → ∀ b, b < 5 → a ≠ b → (TX5 a).2.1 ≠ (TX5 b).2.1 := by decide +kernel
theorem tyX5_ok : ∀ k, k < 5 → parseFieldDescriptor (TX5 k).2.2.1 = some (tyX5 k) := by decide +kernel
abbrev cX5_init : ByteArray := prog_7_method_1_code
def yX5_init : MethodName := ⟨RX5, "<init>", "()V"⟩
abbrev cX5_copyFrom : ByteArray := prog_7_method_2_code
def yX5_copyFrom : MethodName := ⟨RX5, "copyFrom", "(LOakCourt$Reports;)V"⟩
abbrev cX5_note : ByteArray := prog_7_method_3_code
def yX5_note : MethodName := ⟨RX5, "note", "(II)I"⟩
abbrev cX5_fit : ByteArray := prog_7_method_4_code
def yX5_fit : MethodName := ⟨RX5, "fit", "(LOakCourt$Oak;I)V"⟩
abbrev cX5_narrow : ByteArray := prog_7_method_5_code
def yX5_narrow : MethodName := ⟨RX5, "narrow", "(LOakCourt$Oak;I)V"⟩
abbrev cX5_fitting : ByteArray := prog_7_method_6_code
def yX5_fitting : MethodName := ⟨RX5, "fitting", "()I"⟩
def RX6 : String := "OakCourt$Rows"
def TX6 : u_T := fun k => match k with
  | 0 => ("OakCourt$Rows", "count", "I", false)
  | _ => ("OakCourt$Rows", "cells", "[[I", true)
def tyX6 : Nat → FieldType := fun k => match k with
  | 0 => .int
  | _ => .array (.array .int)
abbrev wsX60 : List Cond := u_ws RX6 TX6 2
theorem nmX6 : ∀ a, a < 2 → ∀ b, b < 2 → a ≠ b → (TX6 a).2.1 ≠ (TX6 b).2.1 := by decide +kernel
theorem tyX6_ok : ∀ k, k < 2 → parseFieldDescriptor (TX6 k).2.2.1 = some (tyX6 k) := by decide +kernel
abbrev cX6_init : ByteArray := prog_8_method_1_code
def yX6_init : MethodName := ⟨RX6, "<init>", "()V"⟩
abbrev cX6_has : ByteArray := prog_8_method_2_code
def yX6_has : MethodName := ⟨RX6, "has", "(II)Z"⟩
abbrev cX6_tell : ByteArray := prog_8_method_3_code
def yX6_tell : MethodName := ⟨RX6, "tell", "(LOakCourt$Oak;I)V"⟩
abbrev cX6_firstWrong : ByteArray := prog_8_method_4_code
def yX6_firstWrong : MethodName := ⟨RX6, "firstWrong", "(LOakCourt$Oak;)I"⟩
def RX7 : String := "OakCourt$RuleReader"
def TX7 : u_T := fun k => match k with
  | 0 => ("OakCourt$RuleReader", "told", "LOakCourt$Rules;", true)
  | 1 => ("OakCourt$RuleReader", "due", "I", false)
  | 2 => ("OakCourt$RuleReader", "sign", "I", false)
  | 3 => ("OakCourt$RuleReader", "open", "I", false)
  | 4 => ("OakCourt$RuleReader", "steps", "I", false)
  | 5 => ("OakCourt$RuleReader", "waiting", "[I", true)
  | _ => ("OakCourt$RuleReader", "waits", "I", false)
def tyX7 : Nat → FieldType := fun k => match k with
  | 0 => .object "OakCourt$Rules"
  | 1 => .int
  | 2 => .int
  | 3 => .int
  | 4 => .int
  | 5 => .array .int
  | _ => .int
abbrev wsX70 : List Cond := u_ws RX7 TX7 7
theorem nmX7 : ∀ a, a < 7 → ∀ b, b < 7 → a ≠ b → (TX7 a).2.1 ≠ (TX7 b).2.1 := by decide +kernel
theorem tyX7_ok : ∀ k, k < 7 → parseFieldDescriptor (TX7 k).2.2.1 = some (tyX7 k) := by decide +kernel
abbrev cX7_init : ByteArray := prog_9_method_1_code
def yX7_init : MethodName := ⟨RX7, "<init>", "()V"⟩
abbrev cX7_faultOf : ByteArray := prog_9_method_2_code
def yX7_faultOf : MethodName := ⟨RX7, "faultOf", "(LOakCourt$Tape;)I"⟩
abbrev cX7_takes : ByteArray := prog_9_method_3_code
def yX7_takes : MethodName := ⟨RX7, "takes", "(I)Z"⟩
abbrev cX7_takesKind : ByteArray := prog_9_method_4_code
def yX7_takesKind : MethodName := ⟨RX7, "takesKind", "(I)Z"⟩
abbrev cX7_takesIf : ByteArray := prog_9_method_5_code
def yX7_takesIf : MethodName := ⟨RX7, "takesIf", "(I)Z"⟩
abbrev cX7_takesDeed : ByteArray := prog_9_method_6_code
def yX7_takesDeed : MethodName := ⟨RX7, "takesDeed", "(I)Z"⟩
abbrev cX7_takesAmount : ByteArray := prog_9_method_7_code
def yX7_takesAmount : MethodName := ⟨RX7, "takesAmount", "(I)Z"⟩
abbrev cX7_takesEnd : ByteArray := prog_9_method_8_code
def yX7_takesEnd : MethodName := ⟨RX7, "takesEnd", "(I)Z"⟩
abbrev cX7_takesOne : ByteArray := prog_9_method_9_code
def yX7_takesOne : MethodName := ⟨RX7, "takesOne", "(I)Z"⟩
abbrev cX7_takesSign : ByteArray := prog_9_method_10_code
def yX7_takesSign : MethodName := ⟨RX7, "takesSign", "(I)Z"⟩
abbrev cX7_takesValue : ByteArray := prog_9_method_11_code
def yX7_takesValue : MethodName := ⟨RX7, "takesValue", "(I)Z"⟩
abbrev cX7_takesJoint : ByteArray := prog_9_method_12_code
def yX7_takesJoint : MethodName := ⟨RX7, "takesJoint", "(I)Z"⟩
abbrev cX7_isValue : ByteArray := prog_9_method_13_code
def yX7_isValue : MethodName := ⟨RX7, "isValue", "(I)Z"⟩
abbrev cX7_await : ByteArray := prog_9_method_14_code
def yX7_await : MethodName := ⟨RX7, "await", "(I)V"⟩
abbrev cX7_settle : ByteArray := prog_9_method_15_code
def yX7_settle : MethodName := ⟨RX7, "settle", "(I)V"⟩
abbrev cX7_step : ByteArray := prog_9_method_16_code
def yX7_step : MethodName := ⟨RX7, "step", "(I)V"⟩
def RX8 : String := "OakCourt$Rules"
def TX8 : u_T := fun k => match k with
  | 0 => ("OakCourt$Rules", "count", "I", false)
  | 1 => ("OakCourt$Rules", "kinds", "[I", true)
  | 2 => ("OakCourt$Rules", "deeds", "[I", true)
  | 3 => ("OakCourt$Rules", "amounts", "[I", true)
  | 4 => ("OakCourt$Rules", "ends", "[I", true)
  | 5 => ("OakCourt$Rules", "code", "[I", true)
  | 6 => ("OakCourt$Rules", "facts", "[I", true)
  | _ => ("OakCourt$Rules", "stack", "[I", true)
def tyX8 : Nat → FieldType := fun k => match k with
  | 0 => .int
  | 1 => .array .int
  | 2 => .array .int
  | 3 => .array .int
  | 4 => .array .int
  | 5 => .array .int
  | 6 => .array .int
  | _ => .array .int
abbrev wsX80 : List Cond := u_ws RX8 TX8 8
theorem nmX8 : ∀ a, a < 8 → ∀ b, b < 8 → a ≠ b → (TX8 a).2.1 ≠ (TX8 b).2.1 := by decide +kernel
theorem tyX8_ok : ∀ k, k < 8 → parseFieldDescriptor (TX8 k).2.2.1 = some (tyX8 k) := by decide +kernel
abbrev cX8_init : ByteArray := prog_10_method_1_code
def yX8_init : MethodName := ⟨RX8, "<init>", "()V"⟩
abbrev cX8_copyFrom : ByteArray := prog_10_method_2_code
def yX8_copyFrom : MethodName := ⟨RX8, "copyFrom", "(LOakCourt$Rules;)V"⟩
abbrev cX8_setFacts : ByteArray := prog_10_method_3_code
def yX8_setFacts : MethodName := ⟨RX8, "setFacts", "(IIIII)V"⟩
abbrev cX8_changed : ByteArray := prog_10_method_4_code
def yX8_changed : MethodName := ⟨RX8, "changed", "(I)I"⟩
abbrev cX8_changedBy : ByteArray := prog_10_method_5_code
def yX8_changedBy : MethodName := ⟨RX8, "changedBy", "(II)I"⟩
abbrev cX8_isSo : ByteArray := prog_10_method_6_code
def yX8_isSo : MethodName := ⟨RX8, "isSo", "(II)Z"⟩
abbrev cX8_joined : ByteArray := prog_10_method_7_code
def yX8_joined : MethodName := ⟨RX8, "joined", "(III)Z"⟩
def RX9 : String := "OakCourt$Seating"
def TX9 : u_T := fun k => match k with
  | 0 => ("OakCourt$Seating", "count", "I", false)
  | 1 => ("OakCourt$Seating", "members", "[I", true)
  | 2 => ("OakCourt$Seating", "seats", "[I", true)
  | _ => ("OakCourt$Seating", "oak", "LOakCourt$Oak;", true)
def tyX9 : Nat → FieldType := fun k => match k with
  | 0 => .int
  | 1 => .array .int
  | 2 => .array .int
  | _ => .object "OakCourt$Oak"
abbrev wsX90 : List Cond := u_ws RX9 TX9 4
theorem nmX9 : ∀ a, a < 4 → ∀ b, b < 4 → a ≠ b → (TX9 a).2.1 ≠ (TX9 b).2.1 := by decide +kernel
theorem tyX9_ok : ∀ k, k < 4 → parseFieldDescriptor (TX9 k).2.2.1 = some (tyX9 k) := by decide +kernel
abbrev cX9_init : ByteArray := prog_11_method_1_code
def yX9_init : MethodName := ⟨RX9, "<init>", "()V"⟩
abbrev cX9_finds : ByteArray := prog_11_method_2_code
def yX9_finds : MethodName := ⟨RX9, "finds", "(LOakCourt$Oak;I)Z"⟩
abbrev cX9_seatsFrom : ByteArray := prog_11_method_3_code
def yX9_seatsFrom : MethodName := ⟨RX9, "seatsFrom", "(I)Z"⟩
abbrev cX9_gameValue : ByteArray := prog_11_method_4_code
def yX9_gameValue : MethodName := ⟨RX9, "gameValue", "(LOakCourt$Oak;II)I"⟩
abbrev cX9_firstMove : ByteArray := prog_11_method_5_code
def yX9_firstMove : MethodName := ⟨RX9, "firstMove", "(LOakCourt$Oak;II)I"⟩
abbrev cX9_valueOf : ByteArray := prog_11_method_6_code
def yX9_valueOf : MethodName := ⟨RX9, "valueOf", "(II)I"⟩
abbrev cX9_valueBehind : ByteArray := prog_11_method_7_code
def yX9_valueBehind : MethodName := ⟨RX9, "valueBehind", "(III)I"⟩
def RX10 : String := "OakCourt$Tape"
def TX10 : u_T := fun k => match k with
  | 0 => ("OakCourt$Tape", "count", "I", false)
  | _ => ("OakCourt$Tape", "bytes", "[I", true)
def tyX10 : Nat → FieldType := fun k => match k with
  | 0 => .int
  | _ => .array .int
abbrev wsX100 : List Cond := u_ws RX10 TX10 2
theorem nmX10 : ∀ a, a < 2 → ∀ b, b < 2 → a ≠ b → (TX10 a).2.1 ≠ (TX10 b).2.1 := by decide +kernel
theorem tyX10_ok : ∀ k, k < 2 → parseFieldDescriptor (TX10 k).2.2.1 = some (tyX10 k) := by decide +kernel
abbrev cX10_init : ByteArray := prog_12_method_1_code
def yX10_init : MethodName := ⟨RX10, "<init>", "()V"⟩
abbrev cX10_append : ByteArray := prog_12_method_2_code
def yX10_append : MethodName := ⟨RX10, "append", "(JI)V"⟩
abbrev cX10_isBlank : ByteArray := prog_12_method_3_code
def yX10_isBlank : MethodName := ⟨RX10, "isBlank", "(I)Z"⟩
abbrev cX10_endOfWord : ByteArray := prog_12_method_4_code
def yX10_endOfWord : MethodName := ⟨RX10, "endOfWord", "(I)I"⟩
abbrev cX10_word : ByteArray := prog_12_method_5_code
def yX10_word : MethodName := ⟨RX10, "word", "(II)I"⟩
abbrev cX10_numberWord : ByteArray := prog_12_method_6_code
def yX10_numberWord : MethodName := ⟨RX10, "numberWord", "(II)I"⟩
abbrev cX10_nameWord : ByteArray := prog_12_method_7_code
def yX10_nameWord : MethodName := ⟨RX10, "nameWord", "(II)I"⟩
abbrev cX10_isName : ByteArray := prog_12_method_8_code
def yX10_isName : MethodName := ⟨RX10, "isName", "(Ljava/lang/String;II)Z"⟩
abbrev cX10_isLetter : ByteArray := prog_12_method_9_code
def yX10_isLetter : MethodName := ⟨RX10, "isLetter", "(I)Z"⟩
abbrev cX10_isDigit : ByteArray := prog_12_method_10_code
def yX10_isDigit : MethodName := ⟨RX10, "isDigit", "(I)Z"⟩
def RX11 : String := "OakCourt"
def TX11 : u_T := fun k => match k with
  | 0 => ("OakCourt", "now", "LOakCourt$Oak;", true)
  | 1 => ("OakCourt", "tried", "LOakCourt$Oak;", true)
  | 2 => ("OakCourt", "kept", "LOakCourt$Oak;", true)
  | 3 => ("OakCourt", "isKept", "Z", false)
  | 4 => ("OakCourt", "tape", "LOakCourt$Tape;", true)
  | 5 => ("OakCourt", "reader", "LOakCourt$RuleReader;", true)
  | 6 => ("OakCourt", "seating", "LOakCourt$Seating;", true)
  | 7 => ("OakCourt", "rows", "LOakCourt$Rows;", true)
  | 8 => ("OakCourt", "host", "LOakCourt$Host;", true)
  | _ => ("OakCourt", "acts", "LOakCourt$Acts;", true)
def tyX11 : Nat → FieldType := fun k => match k with
  | 0 => .object "OakCourt$Oak"
  | 1 => .object "OakCourt$Oak"
  | 2 => .object "OakCourt$Oak"
  | 3 => .boolean
  | 4 => .object "OakCourt$Tape"
  | 5 => .object "OakCourt$RuleReader"
  | 6 => .object "OakCourt$Seating"
  | 7 => .object "OakCourt$Rows"
  | 8 => .object "OakCourt$Host"
  | _ => .object "OakCourt$Acts"
abbrev wsX110 : List Cond := u_ws RX11 TX11 10
theorem nmX11 : ∀ a, a < 10 → ∀ b, b < 10 → a ≠ b → (TX11 a).2.1 ≠ (TX11 b).2.1 := by decide +kernel
theorem tyX11_ok : ∀ k, k < 10 → parseFieldDescriptor (TX11 k).2.2.1 = some (tyX11 k) := by decide +kernel
abbrev cX11_init : ByteArray := prog_1_method_1_code
def yX11_init : MethodName := ⟨RX11, "<init>", "()V"⟩
abbrev cX11_bough : ByteArray := prog_1_method_2_code
def yX11_bough : MethodName := ⟨RX11, "bough", "(IIII)I"⟩
abbrev cX11_boughOf : ByteArray := prog_1_method_3_code
def yX11_boughOf : MethodName := ⟨RX11, "boughOf", "(II)I"⟩
abbrev cX11_change : ByteArray := prog_1_method_4_code
def yX11_change : MethodName := ⟨RX11, "change", "(III)I"⟩
abbrev cX11_graft : ByteArray := prog_1_method_5_code
def yX11_graft : MethodName := ⟨RX11, "graft", "(II)I"⟩
abbrev cX11_weather : ByteArray := prog_1_method_6_code
def yX11_weather : MethodName := ⟨RX11, "weather", "(II)I"⟩
abbrev cX11_feed : ByteArray := prog_1_method_7_code
def yX11_feed : MethodName := ⟨RX11, "feed", "(JI)I"⟩
abbrev cX11_rules : ByteArray := prog_1_method_8_code
def yX11_rules : MethodName := ⟨RX11, "rules", "()I"⟩
abbrev cX11_person : ByteArray := prog_1_method_9_code
def yX11_person : MethodName := ⟨RX11, "person", "(II)I"⟩
abbrev cX11_personOf : ByteArray := prog_1_method_10_code
def yX11_personOf : MethodName := ⟨RX11, "personOf", "(II)I"⟩
abbrev cX11_sit : ByteArray := prog_1_method_11_code
def yX11_sit : MethodName := ⟨RX11, "sit", "(II)I"⟩
abbrev cX11_down : ByteArray := prog_1_method_12_code
def yX11_down : MethodName := ⟨RX11, "down", "(I)I"⟩
abbrev cX11_cracks : ByteArray := prog_1_method_13_code
def yX11_cracks : MethodName := ⟨RX11, "cracks", "()I"⟩
abbrev cX11_worst : ByteArray := prog_1_method_14_code
def yX11_worst : MethodName := ⟨RX11, "worst", "()I"⟩
abbrev cX11_fall : ByteArray := prog_1_method_15_code
def yX11_fall : MethodName := ⟨RX11, "fall", "()I"⟩
abbrev cX11_would : ByteArray := prog_1_method_16_code
def yX11_would : MethodName := ⟨RX11, "would", "()I"⟩
abbrev cX11_standing : ByteArray := prog_1_method_17_code
def yX11_standing : MethodName := ⟨RX11, "standing", "(I)I"⟩
abbrev cX11_verdict : ByteArray := prog_1_method_18_code
def yX11_verdict : MethodName := ⟨RX11, "verdict", "()I"⟩
abbrev cX11_room : ByteArray := prog_1_method_19_code
def yX11_room : MethodName := ⟨RX11, "room", "(I)I"⟩
abbrev cX11_best : ByteArray := prog_1_method_20_code
def yX11_best : MethodName := ⟨RX11, "best", "(I)I"⟩
abbrev cX11_safe : ByteArray := prog_1_method_21_code
def yX11_safe : MethodName := ⟨RX11, "safe", "(I)I"⟩
abbrev cX11_prop : ByteArray := prog_1_method_22_code
def yX11_prop : MethodName := ⟨RX11, "prop", "()I"⟩
abbrev cX11_windFor : ByteArray := prog_1_method_23_code
def yX11_windFor : MethodName := ⟨RX11, "windFor", "()I"⟩
abbrev cX11_sapFor : ByteArray := prog_1_method_24_code
def yX11_sapFor : MethodName := ⟨RX11, "sapFor", "()I"⟩
abbrev cX11_tryWithout : ByteArray := prog_1_method_25_code
def yX11_tryWithout : MethodName := ⟨RX11, "tryWithout", "(I)V"⟩
abbrev cX11_seatedIfPropped : ByteArray := prog_1_method_26_code
def yX11_seatedIfPropped : MethodName := ⟨RX11, "seatedIfPropped", "(I)I"⟩
abbrev cX11_crackingWinds : ByteArray := prog_1_method_27_code
def yX11_crackingWinds : MethodName := ⟨RX11, "crackingWinds", "()I"⟩
abbrev cX11_seat : ByteArray := prog_1_method_28_code
def yX11_seat : MethodName := ⟨RX11, "seat", "(II)I"⟩
abbrev cX11_seatAll : ByteArray := prog_1_method_29_code
def yX11_seatAll : MethodName := ⟨RX11, "seatAll", "(I)I"⟩
abbrev cX11_game : ByteArray := prog_1_method_30_code
def yX11_game : MethodName := ⟨RX11, "game", "(II)I"⟩
abbrev cX11_move : ByteArray := prog_1_method_31_code
def yX11_move : MethodName := ⟨RX11, "move", "(II)I"⟩
abbrev cX11_isSeatable : ByteArray := prog_1_method_32_code
def yX11_isSeatable : MethodName := ⟨RX11, "isSeatable", "(I)Z"⟩
abbrev cX11_report : ByteArray := prog_1_method_33_code
def yX11_report : MethodName := ⟨RX11, "report", "(II)I"⟩
abbrev cX11_forget : ByteArray := prog_1_method_34_code
def yX11_forget : MethodName := ⟨RX11, "forget", "()I"⟩
abbrev cX11_span : ByteArray := prog_1_method_35_code
def yX11_span : MethodName := ⟨RX11, "span", "(I)I"⟩
abbrev cX11_liar : ByteArray := prog_1_method_36_code
def yX11_liar : MethodName := ⟨RX11, "liar", "()I"⟩
abbrev cX11_seed : ByteArray := prog_1_method_37_code
def yX11_seed : MethodName := ⟨RX11, "seed", "(I)I"⟩
abbrev cX11_draw : ByteArray := prog_1_method_38_code
def yX11_draw : MethodName := ⟨RX11, "draw", "()I"⟩
abbrev cX11_often : ByteArray := prog_1_method_39_code
def yX11_often : MethodName := ⟨RX11, "often", "(I)I"⟩
abbrev cX11_drawnFrom : ByteArray := prog_1_method_40_code
def yX11_drawnFrom : MethodName := ⟨RX11, "drawnFrom", "(I)I"⟩
abbrev cX11_windOf : ByteArray := prog_1_method_41_code
def yX11_windOf : MethodName := ⟨RX11, "windOf", "(I)I"⟩
abbrev cX11_prove : ByteArray := prog_1_method_42_code
def yX11_prove : MethodName := ⟨RX11, "prove", "(I)I"⟩
abbrev cX11_row : ByteArray := prog_1_method_43_code
def yX11_row : MethodName := ⟨RX11, "row", "(II)I"⟩
abbrev cX11_alterRow : ByteArray := prog_1_method_44_code
def yX11_alterRow : MethodName := ⟨RX11, "alterRow", "(III)I"⟩
abbrev cX11_judge : ByteArray := prog_1_method_45_code
def yX11_judge : MethodName := ⟨RX11, "judge", "()I"⟩
abbrev cX11_sheet : ByteArray := prog_1_method_46_code
def yX11_sheet : MethodName := ⟨RX11, "sheet", "(III)I"⟩
abbrev cX11_write : ByteArray := prog_1_method_47_code
def yX11_write : MethodName := ⟨RX11, "write", "(III)I"⟩
abbrev cX11_item : ByteArray := prog_1_method_48_code
def yX11_item : MethodName := ⟨RX11, "item", "(III)I"⟩
abbrev cX11_climbs : ByteArray := prog_1_method_49_code
def yX11_climbs : MethodName := ⟨RX11, "climbs", "(IIII)I"⟩
abbrev cX11_shelf : ByteArray := prog_1_method_50_code
def yX11_shelf : MethodName := ⟨RX11, "shelf", "(III)I"⟩
abbrev cX11_taken : ByteArray := prog_1_method_51_code
def yX11_taken : MethodName := ⟨RX11, "taken", "(II)I"⟩
abbrev cX11_act : ByteArray := prog_1_method_52_code
def yX11_act : MethodName := ⟨RX11, "act", "(III)I"⟩
abbrev cX11_trace : ByteArray := prog_1_method_53_code
def yX11_trace : MethodName := ⟨RX11, "trace", "(I)I"⟩
abbrev cX11_many : ByteArray := prog_1_method_54_code
def yX11_many : MethodName := ⟨RX11, "many", "(I)I"⟩
abbrev cX11_boughOn : ByteArray := prog_1_method_55_code
def yX11_boughOn : MethodName := ⟨RX11, "boughOn", "(I)I"⟩
abbrev cX11_narrowed : ByteArray := prog_1_method_56_code
def yX11_narrowed : MethodName := ⟨RX11, "narrowed", "(II)J"⟩
abbrev cX11_keep : ByteArray := prog_1_method_57_code
def yX11_keep : MethodName := ⟨RX11, "keep", "()I"⟩
abbrev cX11_again : ByteArray := prog_1_method_58_code
def yX11_again : MethodName := ⟨RX11, "again", "()I"⟩
abbrev cX11_isWithin : ByteArray := prog_1_method_59_code
def yX11_isWithin : MethodName := ⟨RX11, "isWithin", "(III)Z"⟩
abbrev cX11_isBoughKind : ByteArray := prog_1_method_60_code
def yX11_isBoughKind : MethodName := ⟨RX11, "isBoughKind", "(I)Z"⟩
abbrev cX11_isSide : ByteArray := prog_1_method_61_code
def yX11_isSide : MethodName := ⟨RX11, "isSide", "(I)Z"⟩
abbrev cX11_isPlace : ByteArray := prog_1_method_62_code
def yX11_isPlace : MethodName := ⟨RX11, "isPlace", "(I)Z"⟩
abbrev cX11_isIn : ByteArray := prog_1_method_63_code
def yX11_isIn : MethodName := ⟨RX11, "isIn", "(II)Z"⟩
abbrev cX11_isKindOf : ByteArray := prog_1_method_64_code
def yX11_isKindOf : MethodName := ⟨RX11, "isKindOf", "(II)Z"⟩
abbrev cX11_replaced : ByteArray := prog_1_method_65_code
def yX11_replaced : MethodName := ⟨RX11, "replaced", "([III)I"⟩
abbrev cX11_copyRow : ByteArray := prog_1_method_66_code
def yX11_copyRow : MethodName := ⟨RX11, "copyRow", "([I[I)V"⟩
def RX12 : String := "OakCourtModel"
def TX12 : u_T := fun k => match k with
  | 0 => ("OakCourtModel", "s", "[I", true)
  | 1 => ("OakCourtModel", "kept", "[I", true)
  | 2 => ("OakCourtModel", "other", "[I", true)
  | 3 => ("OakCourtModel", "isKept", "Z", false)
  | 4 => ("OakCourtModel", "stack", "[I", true)
  | 5 => ("OakCourtModel", "holds", "[I", true)
  | 6 => ("OakCourtModel", "bears", "[I", true)
  | 7 => ("OakCourtModel", "stands", "[I", true)
  | 8 => ("OakCourtModel", "party", "[I", true)
  | 9 => ("OakCourtModel", "sat", "[I", true)
  | 10 => ("OakCourtModel", "places", "[I", true)
  | 11 => ("OakCourtModel", "partyMany", "I", false)
  | 12 => ("OakCourtModel", "fitMany", "I", false)
  | 13 => ("OakCourtModel", "fitFirst", "I", false)
  | 14 => ("OakCourtModel", "fitLast", "I", false)
  | 15 => ("OakCourtModel", "rows", "[I", true)
  | 16 => ("OakCourtModel", "rowMany", "I", false)
  | 17 => ("OakCourtModel", "tape", "[I", true)
  | 18 => ("OakCourtModel", "taped", "I", false)
  | 19 => ("OakCourtModel", "from", "I", false)
  | 20 => ("OakCourtModel", "to", "I", false)
  | 21 => ("OakCourtModel", "value", "I", false)
  | 22 => ("OakCourtModel", "open", "I", false)
  | 23 => ("OakCourtModel", "coded", "I", false)
  | 24 => ("OakCourtModel", "isWrong", "Z", false)
  | 25 => ("OakCourtModel", "sortOf", "[I", true)
  | 26 => ("OakCourtModel", "sizeOf", "[I", true)
  | 27 => ("OakCourtModel", "items", "[I", true)
  | 28 => ("OakCourtModel", "lies", "[I", true)
  | 29 => ("OakCourtModel", "liesNumber", "[I", true)
  | 30 => ("OakCourtModel", "liesSort", "[I", true)
  | 31 => ("OakCourtModel", "ran", "[I", true)
  | 32 => ("OakCourtModel", "bodies", "I", false)
  | 33 => ("OakCourtModel", "acting", "I", false)
  | 34 => ("OakCourtModel", "about", "I", false)
  | 35 => ("OakCourtModel", "kindActing", "I", false)
  | _ => ("OakCourtModel", "isParted", "Z", false)
def tyX12 : Nat → FieldType := fun k => match k with
  | 0 => .array .int
  | 1 => .array .int
  | 2 => .array .int
  | 3 => .boolean
  | 4 => .array .int
  | 5 => .array .int
  | 6 => .array .int
  | 7 => .array .int
  | 8 => .array .int
  | 9 => .array .int
  | 10 => .array .int
  | 11 => .int
  | 12 => .int
  | 13 => .int
  | 14 => .int
  | 15 => .array .int
  | 16 => .int
  | 17 => .array .int
  | 18 => .int
  | 19 => .int
  | 20 => .int
  | 21 => .int
  | 22 => .int
  | 23 => .int
  | 24 => .boolean
  | 25 => .array .int
  | 26 => .array .int
  | 27 => .array .int
  | 28 => .array .int
  | 29 => .array .int
  | 30 => .array .int
  | 31 => .array .int
  | 32 => .int
  | 33 => .int
  | 34 => .int
  | 35 => .int
  | _ => .boolean
abbrev wsX120 : List Cond := u_ws RX12 TX12 37
theorem nmX12 : ∀ a, a < 37 → ∀ b, b < 37 → a ≠ b → (TX12 a).2.1 ≠ (TX12 b).2.1 := by decide +kernel
theorem tyX12_ok : ∀ k, k < 37 → parseFieldDescriptor (TX12 k).2.2.1 = some (tyX12 k) := by decide +kernel
abbrev cX12_init : ByteArray := prog_14_method_1_code
def yX12_init : MethodName := ⟨RX12, "<init>", "()V"⟩
abbrev cX12_in : ByteArray := prog_14_method_2_code
def yX12_in : MethodName := ⟨RX12, "in", "(JJJ)Z"⟩
abbrev cX12_isBough : ByteArray := prog_14_method_3_code
def yX12_isBough : MethodName := ⟨RX12, "isBough", "(I)Z"⟩
abbrev cX12_isPerson : ByteArray := prog_14_method_4_code
def yX12_isPerson : MethodName := ⟨RX12, "isPerson", "(I)Z"⟩
abbrev cX12_has : ByteArray := prog_14_method_5_code
def yX12_has : MethodName := ⟨RX12, "has", "(II)Z"⟩
abbrev cX12_puts : ByteArray := prog_14_method_6_code
def yX12_puts : MethodName := ⟨RX12, "puts", "()V"⟩
abbrev cX12_putsBack : ByteArray := prog_14_method_7_code
def yX12_putsBack : MethodName := ⟨RX12, "putsBack", "()V"⟩
abbrev cX12_at : ByteArray := prog_14_method_8_code
def yX12_at : MethodName := ⟨RX12, "at", "(II)I"⟩
abbrev cX12_its : ByteArray := prog_14_method_9_code
def yX12_its : MethodName := ⟨RX12, "its", "(II)I"⟩
abbrev cX12_isBroken : ByteArray := prog_14_method_10_code
def yX12_isBroken : MethodName := ⟨RX12, "isBroken", "(I)Z"⟩
abbrev cX12_below : ByteArray := prog_14_method_11_code
def yX12_below : MethodName := ⟨RX12, "below", "(I)I"⟩
abbrev cX12_isPart : ByteArray := prog_14_method_12_code
def yX12_isPart : MethodName := ⟨RX12, "isPart", "(II)Z"⟩
abbrev cX12_bough : ByteArray := prog_14_method_13_code
def yX12_bough : MethodName := ⟨RX12, "bough", "(IIII)I"⟩
abbrev cX12_isUnder : ByteArray := prog_14_method_14_code
def yX12_isUnder : MethodName := ⟨RX12, "isUnder", "(II)Z"⟩
abbrev cX12_fact : ByteArray := prog_14_method_15_code
def yX12_fact : MethodName := ⟨RX12, "fact", "(II)I"⟩
abbrev cX12_isHolding : ByteArray := prog_14_method_16_code
def yX12_isHolding : MethodName := ⟨RX12, "isHolding", "(III)Z"⟩
abbrev cX12_isSo : ByteArray := prog_14_method_17_code
def yX12_isSo : MethodName := ⟨RX12, "isSo", "(III)Z"⟩
abbrev cX12_holdsNow : ByteArray := prog_14_method_18_code
def yX12_holdsNow : MethodName := ⟨RX12, "holdsNow", "(I)I"⟩
abbrev cX12_findHolds : ByteArray := prog_14_method_19_code
def yX12_findHolds : MethodName := ⟨RX12, "findHolds", "()V"⟩
abbrev cX12_loads : ByteArray := prog_14_method_20_code
def yX12_loads : MethodName := ⟨RX12, "loads", "(II)V"⟩
abbrev cX12_findBears : ByteArray := prog_14_method_21_code
def yX12_findBears : MethodName := ⟨RX12, "findBears", "()V"⟩
abbrev cX12_isCracking : ByteArray := prog_14_method_22_code
def yX12_isCracking : MethodName := ⟨RX12, "isCracking", "(I)Z"⟩
abbrev cX12_crackSet : ByteArray := prog_14_method_23_code
def yX12_crackSet : MethodName := ⟨RX12, "crackSet", "()I"⟩
abbrev cX12_isSafe : ByteArray := prog_14_method_24_code
def yX12_isSafe : MethodName := ⟨RX12, "isSafe", "()Z"⟩
abbrev cX12_findAll : ByteArray := prog_14_method_25_code
def yX12_findAll : MethodName := ⟨RX12, "findAll", "()V"⟩
abbrev cX12_boughOf : ByteArray := prog_14_method_26_code
def yX12_boughOf : MethodName := ⟨RX12, "boughOf", "(II)I"⟩
abbrev cX12_change : ByteArray := prog_14_method_27_code
def yX12_change : MethodName := ⟨RX12, "change", "(III)I"⟩
abbrev cX12_graft : ByteArray := prog_14_method_28_code
def yX12_graft : MethodName := ⟨RX12, "graft", "(II)I"⟩
abbrev cX12_weather : ByteArray := prog_14_method_29_code
def yX12_weather : MethodName := ⟨RX12, "weather", "(II)I"⟩
abbrev cX12_where : ByteArray := prog_14_method_30_code
def yX12_where : MethodName := ⟨RX12, "where", "(II)I"⟩
abbrev cX12_whose : ByteArray := prog_14_method_31_code
def yX12_whose : MethodName := ⟨RX12, "whose", "(II)I"⟩
abbrev cX12_seatOf : ByteArray := prog_14_method_32_code
def yX12_seatOf : MethodName := ⟨RX12, "seatOf", "(I)I"⟩
abbrev cX12_seats : ByteArray := prog_14_method_33_code
def yX12_seats : MethodName := ⟨RX12, "seats", "(II)V"⟩
abbrev cX12_person : ByteArray := prog_14_method_34_code
def yX12_person : MethodName := ⟨RX12, "person", "(II)I"⟩
abbrev cX12_toldSeat : ByteArray := prog_14_method_35_code
def yX12_toldSeat : MethodName := ⟨RX12, "toldSeat", "(I)I"⟩
abbrev cX12_personOf : ByteArray := prog_14_method_36_code
def yX12_personOf : MethodName := ⟨RX12, "personOf", "(II)I"⟩
abbrev cX12_sit : ByteArray := prog_14_method_37_code
def yX12_sit : MethodName := ⟨RX12, "sit", "(II)I"⟩
abbrev cX12_down : ByteArray := prog_14_method_38_code
def yX12_down : MethodName := ⟨RX12, "down", "(I)I"⟩
abbrev cX12_cracks : ByteArray := prog_14_method_39_code
def yX12_cracks : MethodName := ⟨RX12, "cracks", "()I"⟩
abbrev cX12_worstOf : ByteArray := prog_14_method_40_code
def yX12_worstOf : MethodName := ⟨RX12, "worstOf", "()I"⟩
abbrev cX12_worst : ByteArray := prog_14_method_41_code
def yX12_worst : MethodName := ⟨RX12, "worst", "()I"⟩
abbrev cX12_isAbove : ByteArray := prog_14_method_42_code
def yX12_isAbove : MethodName := ⟨RX12, "isAbove", "(II)Z"⟩
abbrev cX12_falls : ByteArray := prog_14_method_43_code
def yX12_falls : MethodName := ⟨RX12, "falls", "()I"⟩
abbrev cX12_fall : ByteArray := prog_14_method_44_code
def yX12_fall : MethodName := ⟨RX12, "fall", "()I"⟩
abbrev cX12_would : ByteArray := prog_14_method_45_code
def yX12_would : MethodName := ⟨RX12, "would", "()I"⟩
abbrev cX12_findStanding : ByteArray := prog_14_method_46_code
def yX12_findStanding : MethodName := ⟨RX12, "findStanding", "()V"⟩
abbrev cX12_standing : ByteArray := prog_14_method_47_code
def yX12_standing : MethodName := ⟨RX12, "standing", "(I)I"⟩
abbrev cX12_verdict : ByteArray := prog_14_method_48_code
def yX12_verdict : MethodName := ⟨RX12, "verdict", "()I"⟩
abbrev cX12_roomOf : ByteArray := prog_14_method_49_code
def yX12_roomOf : MethodName := ⟨RX12, "roomOf", "(I)I"⟩
abbrev cX12_room : ByteArray := prog_14_method_50_code
def yX12_room : MethodName := ⟨RX12, "room", "(I)I"⟩
abbrev cX12_best : ByteArray := prog_14_method_51_code
def yX12_best : MethodName := ⟨RX12, "best", "(I)I"⟩
abbrev cX12_safe : ByteArray := prog_14_method_52_code
def yX12_safe : MethodName := ⟨RX12, "safe", "(I)I"⟩
abbrev cX12_prop : ByteArray := prog_14_method_53_code
def yX12_prop : MethodName := ⟨RX12, "prop", "()I"⟩
abbrev cX12_leastOf : ByteArray := prog_14_method_54_code
def yX12_leastOf : MethodName := ⟨RX12, "leastOf", "(IZ)I"⟩
abbrev cX12_windFor : ByteArray := prog_14_method_55_code
def yX12_windFor : MethodName := ⟨RX12, "windFor", "()I"⟩
abbrev cX12_sapFor : ByteArray := prog_14_method_56_code
def yX12_sapFor : MethodName := ⟨RX12, "sapFor", "()I"⟩
abbrev cX12_ones : ByteArray := prog_14_method_57_code
def yX12_ones : MethodName := ⟨RX12, "ones", "(I)I"⟩
abbrev cX12_isParty : ByteArray := prog_14_method_58_code
def yX12_isParty : MethodName := ⟨RX12, "isParty", "(I)Z"⟩
abbrev cX12_canSeat : ByteArray := prog_14_method_59_code
def yX12_canSeat : MethodName := ⟨RX12, "canSeat", "(I)Z"⟩
abbrev cX12_findSeating : ByteArray := prog_14_method_60_code
def yX12_findSeating : MethodName := ⟨RX12, "findSeating", "(I)Z"⟩
abbrev cX12_seat : ByteArray := prog_14_method_61_code
def yX12_seat : MethodName := ⟨RX12, "seat", "(II)I"⟩
abbrev cX12_seatAll : ByteArray := prog_14_method_62_code
def yX12_seatAll : MethodName := ⟨RX12, "seatAll", "(I)I"⟩
abbrev cX12_idler : ByteArray := prog_14_method_63_code
def yX12_idler : MethodName := ⟨RX12, "idler", "(I)I"⟩
abbrev cX12_worthOf : ByteArray := prog_14_method_64_code
def yX12_worthOf : MethodName := ⟨RX12, "worthOf", "(II)I"⟩
abbrev cX12_leadsTo : ByteArray := prog_14_method_65_code
def yX12_leadsTo : MethodName := ⟨RX12, "leadsTo", "(IIII)I"⟩
abbrev cX12_valueOf : ByteArray := prog_14_method_66_code
def yX12_valueOf : MethodName := ⟨RX12, "valueOf", "(II)I"⟩
abbrev cX12_isGame : ByteArray := prog_14_method_67_code
def yX12_isGame : MethodName := ⟨RX12, "isGame", "(II)Z"⟩
abbrev cX12_game : ByteArray := prog_14_method_68_code
def yX12_game : MethodName := ⟨RX12, "game", "(II)I"⟩
abbrev cX12_move : ByteArray := prog_14_method_69_code
def yX12_move : MethodName := ⟨RX12, "move", "(II)I"⟩
abbrev cX12_report : ByteArray := prog_14_method_70_code
def yX12_report : MethodName := ⟨RX12, "report", "(II)I"⟩
abbrev cX12_forget : ByteArray := prog_14_method_71_code
def yX12_forget : MethodName := ⟨RX12, "forget", "()I"⟩
abbrev cX12_isCracked : ByteArray := prog_14_method_72_code
def yX12_isCracked : MethodName := ⟨RX12, "isCracked", "(II)Z"⟩
abbrev cX12_findFits : ByteArray := prog_14_method_73_code
def yX12_findFits : MethodName := ⟨RX12, "findFits", "(I)V"⟩
abbrev cX12_span : ByteArray := prog_14_method_74_code
def yX12_span : MethodName := ⟨RX12, "span", "(I)I"⟩
abbrev cX12_liar : ByteArray := prog_14_method_75_code
def yX12_liar : MethodName := ⟨RX12, "liar", "()I"⟩
abbrev cX12_seed : ByteArray := prog_14_method_76_code
def yX12_seed : MethodName := ⟨RX12, "seed", "(I)I"⟩
abbrev cX12_draw : ByteArray := prog_14_method_77_code
def yX12_draw : MethodName := ⟨RX12, "draw", "()I"⟩
abbrev cX12_often : ByteArray := prog_14_method_78_code
def yX12_often : MethodName := ⟨RX12, "often", "(I)I"⟩
abbrev cX12_prove : ByteArray := prog_14_method_79_code
def yX12_prove : MethodName := ⟨RX12, "prove", "(I)I"⟩
abbrev cX12_isRow : ByteArray := prog_14_method_80_code
def yX12_isRow : MethodName := ⟨RX12, "isRow", "(II)Z"⟩
abbrev cX12_row : ByteArray := prog_14_method_81_code
def yX12_row : MethodName := ⟨RX12, "row", "(II)I"⟩
abbrev cX12_alterRow : ByteArray := prog_14_method_82_code
def yX12_alterRow : MethodName := ⟨RX12, "alterRow", "(III)I"⟩
abbrev cX12_judge : ByteArray := prog_14_method_83_code
def yX12_judge : MethodName := ⟨RX12, "judge", "()I"⟩
abbrev cX12_feed : ByteArray := prog_14_method_84_code
def yX12_feed : MethodName := ⟨RX12, "feed", "(JI)I"⟩
abbrev cX12_byteAt : ByteArray := prog_14_method_85_code
def yX12_byteAt : MethodName := ⟨RX12, "byteAt", "(I)I"⟩
abbrev cX12_isLetter : ByteArray := prog_14_method_86_code
def yX12_isLetter : MethodName := ⟨RX12, "isLetter", "(I)Z"⟩
abbrev cX12_isDigit : ByteArray := prog_14_method_87_code
def yX12_isDigit : MethodName := ⟨RX12, "isDigit", "(I)Z"⟩
abbrev cX12_token : ByteArray := prog_14_method_88_code
def yX12_token : MethodName := ⟨RX12, "token", "()V"⟩
abbrev cX12_needs : ByteArray := prog_14_method_89_code
def yX12_needs : MethodName := ⟨RX12, "needs", "(Z)V"⟩
abbrev cX12_word : ByteArray := prog_14_method_90_code
def yX12_word : MethodName := ⟨RX12, "word", "()J"⟩
abbrev cX12_number : ByteArray := prog_14_method_91_code
def yX12_number : MethodName := ⟨RX12, "number", "(I)V"⟩
abbrev cX12_kindHere : ByteArray := prog_14_method_92_code
def yX12_kindHere : MethodName := ⟨RX12, "kindHere", "()I"⟩
abbrev cX12_factHere : ByteArray := prog_14_method_93_code
def yX12_factHere : MethodName := ⟨RX12, "factHere", "()I"⟩
abbrev cX12_writes : ByteArray := prog_14_method_94_code
def yX12_writes : MethodName := ⟨RX12, "writes", "(I)V"⟩
abbrev cX12_valueHere : ByteArray := prog_14_method_95_code
def yX12_valueHere : MethodName := ⟨RX12, "valueHere", "()V"⟩
abbrev cX12_comparison : ByteArray := prog_14_method_96_code
def yX12_comparison : MethodName := ⟨RX12, "comparison", "()V"⟩
abbrev cX12_one : ByteArray := prog_14_method_97_code
def yX12_one : MethodName := ⟨RX12, "one", "()V"⟩
abbrev cX12_all : ByteArray := prog_14_method_98_code
def yX12_all : MethodName := ⟨RX12, "all", "()V"⟩
abbrev cX12_condition : ByteArray := prog_14_method_99_code
def yX12_condition : MethodName := ⟨RX12, "condition", "()V"⟩
abbrev cX12_rule : ByteArray := prog_14_method_100_code
def yX12_rule : MethodName := ⟨RX12, "rule", "()V"⟩
abbrev cX12_rules : ByteArray := prog_14_method_101_code
def yX12_rules : MethodName := ⟨RX12, "rules", "()I"⟩
abbrev cX12_isOne : ByteArray := prog_14_method_102_code
def yX12_isOne : MethodName := ⟨RX12, "isOne", "(I)Z"⟩
abbrev cX12_sheet : ByteArray := prog_14_method_103_code
def yX12_sheet : MethodName := ⟨RX12, "sheet", "(III)I"⟩
abbrev cX12_narrowed : ByteArray := prog_14_method_104_code
def yX12_narrowed : MethodName := ⟨RX12, "narrowed", "(II)I"⟩
abbrev cX12_write : ByteArray := prog_14_method_105_code
def yX12_write : MethodName := ⟨RX12, "write", "(III)I"⟩
abbrev cX12_wrong : ByteArray := prog_14_method_106_code
def yX12_wrong : MethodName := ⟨RX12, "wrong", "(II)I"⟩
abbrev cX12_item : ByteArray := prog_14_method_107_code
def yX12_item : MethodName := ⟨RX12, "item", "(III)I"⟩
abbrev cX12_climbs : ByteArray := prog_14_method_108_code
def yX12_climbs : MethodName := ⟨RX12, "climbs", "(IIII)I"⟩
abbrev cX12_shelf : ByteArray := prog_14_method_109_code
def yX12_shelf : MethodName := ⟨RX12, "shelf", "(III)I"⟩
abbrev cX12_onShelf : ByteArray := prog_14_method_110_code
def yX12_onShelf : MethodName := ⟨RX12, "onShelf", "(I)I"⟩
abbrev cX12_taken : ByteArray := prog_14_method_111_code
def yX12_taken : MethodName := ⟨RX12, "taken", "(II)I"⟩
abbrev cX12_runs : ByteArray := prog_14_method_112_code
def yX12_runs : MethodName := ⟨RX12, "runs", "(I)V"⟩
abbrev cX12_sways : ByteArray := prog_14_method_113_code
def yX12_sways : MethodName := ⟨RX12, "sways", "(I)I"⟩
abbrev cX12_bends : ByteArray := prog_14_method_114_code
def yX12_bends : MethodName := ⟨RX12, "bends", "(I)I"⟩
abbrev cX12_parts : ByteArray := prog_14_method_115_code
def yX12_parts : MethodName := ⟨RX12, "parts", "(I)I"⟩
abbrev cX12_shares : ByteArray := prog_14_method_116_code
def yX12_shares : MethodName := ⟨RX12, "shares", "(I)I"⟩
abbrev cX12_tells : ByteArray := prog_14_method_117_code
def yX12_tells : MethodName := ⟨RX12, "tells", "(I)I"⟩
abbrev cX12_act : ByteArray := prog_14_method_118_code
def yX12_act : MethodName := ⟨RX12, "act", "(III)I"⟩
abbrev cX12_traced : ByteArray := prog_14_method_119_code
def yX12_traced : MethodName := ⟨RX12, "traced", "()I"⟩
abbrev cX12_trace : ByteArray := prog_14_method_120_code
def yX12_trace : MethodName := ⟨RX12, "trace", "(I)I"⟩
abbrev cX12_many : ByteArray := prog_14_method_121_code
def yX12_many : MethodName := ⟨RX12, "many", "(I)I"⟩
abbrev cX12_keep : ByteArray := prog_14_method_122_code
def yX12_keep : MethodName := ⟨RX12, "keep", "()I"⟩
abbrev cX12_again : ByteArray := prog_14_method_123_code
def yX12_again : MethodName := ⟨RX12, "again", "()I"⟩
def RJ6 : String := "java/lang/Integer"
def TJ6 : u_T := fun k => match k with
  | _ => ("", "", "", false)
def tyJ6 : Nat → FieldType := fun k => match k with
  | _ => .int
abbrev wsJ60 : List Cond := u_ws RJ6 TJ6 0
theorem nmJ6 : ∀ a, a < 0 → ∀ b, b < 0 → a ≠ b → (TJ6 a).2.1 ≠ (TJ6 b).2.1 := by decide +kernel
theorem tyJ6_ok : ∀ k, k < 0 → parseFieldDescriptor (TJ6 k).2.2.1 = some (tyJ6 k) := by decide +kernel
abbrev cJ6_bitCount_0f7a4 : ByteArray := prog_15_method_49_code
def yJ6_bitCount_0f7a4 : MethodName := ⟨RJ6, "bitCount", "(I)I"⟩
def RJ9 : String := "java/lang/Math"
def TJ9 : u_T := fun k => match k with
  | _ => ("", "", "", false)
def tyJ9 : Nat → FieldType := fun k => match k with
  | _ => .int
abbrev wsJ90 : List Cond := u_ws RJ9 TJ9 0
theorem nmJ9 : ∀ a, a < 0 → ∀ b, b < 0 → a ≠ b → (TJ9 a).2.1 ≠ (TJ9 b).2.1 := by decide +kernel
theorem tyJ9_ok : ∀ k, k < 0 → parseFieldDescriptor (TJ9 k).2.2.1 = some (tyJ9 k) := by decide +kernel
abbrev cJ9_max_7cf53 : ByteArray := prog_16_method_65_code
def yJ9_max_7cf53 : MethodName := ⟨RJ9, "max", "(II)I"⟩
abbrev cJ9_min_7cf53 : ByteArray := prog_16_method_69_code
def yJ9_min_7cf53 : MethodName := ⟨RJ9, "min", "(II)I"⟩
def RJ0 : String := "java/lang/String"
def TJ0 : u_T := fun k => match k with
  | _ => ("", "", "", false)
def tyJ0 : Nat → FieldType := fun k => match k with
  | _ => .int
abbrev wsJ00 : List Cond := u_ws RJ0 TJ0 0
theorem nmJ0 : ∀ a, a < 0 → ∀ b, b < 0 → a ≠ b → (TJ0 a).2.1 ≠ (TJ0 b).2.1 := by decide +kernel
theorem tyJ0_ok : ∀ k, k < 0 → parseFieldDescriptor (TJ0 k).2.2.1 = some (tyJ0 k) := by decide +kernel
abbrev cJ0_length_8abf5 : ByteArray := prog_17_method_54_code
def yJ0_length_8abf5 : MethodName := ⟨RJ0, "length", "()I"⟩
abbrev cJ0_charAt_5068e : ByteArray := prog_17_method_56_code
def yJ0_charAt_5068e : MethodName := ⟨RJ0, "charAt", "(I)C"⟩
abbrev cJ0_coder_7d493 : ByteArray := prog_17_method_152_code
def yJ0_coder_7d493 : MethodName := ⟨RJ0, "coder", "()B"⟩
abbrev cJ0_isLatin1_aae02 : ByteArray := prog_17_method_154_code
def yJ0_isLatin1_aae02 : MethodName := ⟨RJ0, "isLatin1", "()Z"⟩
abbrev cJ0_checkIndex_df160 : ByteArray := prog_17_method_155_code
def yJ0_checkIndex_df160 : MethodName := ⟨RJ0, "checkIndex", "(II)V"⟩
def RJ1 : String := "java/lang/StringLatin1"
def TJ1 : u_T := fun k => match k with
  | _ => ("", "", "", false)
def tyJ1 : Nat → FieldType := fun k => match k with
  | _ => .int
abbrev wsJ10 : List Cond := u_ws RJ1 TJ1 0
theorem nmJ1 : ∀ a, a < 0 → ∀ b, b < 0 → a ≠ b → (TJ1 a).2.1 ≠ (TJ1 b).2.1 := by decide +kernel
theorem tyJ1_ok : ∀ k, k < 0 → parseFieldDescriptor (TJ1 k).2.2.1 = some (tyJ1 k) := by decide +kernel
abbrev cJ1_charAt_3b067 : ByteArray := prog_18_method_2_code
def yJ1_charAt_3b067 : MethodName := ⟨RJ1, "charAt", "([BI)C"⟩
def RJ2 : String := "java/lang/StringUTF16"
def TJ2 : u_T := fun k => match k with
  | _ => ("", "", "", false)
def tyJ2 : Nat → FieldType := fun k => match k with
  | _ => .int
abbrev wsJ20 : List Cond := u_ws RJ2 TJ2 0
theorem nmJ2 : ∀ a, a < 0 → ∀ b, b < 0 → a ≠ b → (TJ2 a).2.1 ≠ (TJ2 b).2.1 := by decide +kernel
theorem tyJ2_ok : ∀ k, k < 0 → parseFieldDescriptor (TJ2 k).2.2.1 = some (tyJ2 k) := by decide +kernel
abbrev cJ2_getChar_3b067 : ByteArray := prog_19_method_5_code
def yJ2_getChar_3b067 : MethodName := ⟨RJ2, "getChar", "([BI)C"⟩
abbrev cJ2_length_9d52b : ByteArray := prog_19_method_6_code
def yJ2_length_9d52b : MethodName := ⟨RJ2, "length", "([B)I"⟩
abbrev cJ2_charAt_3b067 : ByteArray := prog_19_method_83_code
def yJ2_charAt_3b067 : MethodName := ⟨RJ2, "charAt", "([BI)C"⟩
abbrev cJ2_checkIndex_2214a : ByteArray := prog_19_method_91_code
def yJ2_checkIndex_2214a : MethodName := ⟨RJ2, "checkIndex", "(I[B)V"⟩
def RJ10 : String := "java/lang/System"
def TJ10 : u_T := fun k => match k with
  | _ => ("", "", "", false)
def tyJ10 : Nat → FieldType := fun k => match k with
  | _ => .int
abbrev wsJ100 : List Cond := u_ws RJ10 TJ10 0
theorem nmJ10 : ∀ a, a < 0 → ∀ b, b < 0 → a ≠ b → (TJ10 a).2.1 ≠ (TJ10 b).2.1 := by decide +kernel
theorem tyJ10_ok : ∀ k, k < 0 → parseFieldDescriptor (TJ10 k).2.2.1 = some (tyJ10 k) := by decide +kernel
def RJ3 : String := "jdk/internal/util/Preconditions"
def TJ3 : u_T := fun k => match k with
  | _ => ("", "", "", false)
def tyJ3 : Nat → FieldType := fun k => match k with
  | _ => .int
abbrev wsJ30 : List Cond := u_ws RJ3 TJ3 0
theorem nmJ3 : ∀ a, a < 0 → ∀ b, b < 0 → a ≠ b → (TJ3 a).2.1 ≠ (TJ3 b).2.1 := by decide +kernel
theorem tyJ3_ok : ∀ k, k < 0 → parseFieldDescriptor (TJ3 k).2.2.1 = some (tyJ3 k) := by decide +kernel
abbrev cJ3_checkIndex_8e157 : ByteArray := prog_21_method_11_code
def yJ3_checkIndex_8e157 : MethodName := ⟨RJ3, "checkIndex", "(IILjava/util/function/BiFunction;)I"⟩
def RL : String := "OakCourtLaw"
abbrev cL_law : ByteArray := code
def yL_law : MethodName := ⟨RL, "law", "([I)Z"⟩
end
section
/-- the kinds of cells -/
def zKD : List (Nat × Nat) := [(0, 3), (0, 1), (1, 9), (1, 9), (1, 9), (1, 9), (1, 9), (0, 8), (1, 8), (1, 8), (1, 8), (1, 8), (1, 200), (1, 5), (1, 16), (0, 4), (1, 8), (1, 8), (1, 8), (0, 5), (1, 6), (1, 6), (1, 9), (9, 0), (9, 0), (9, 0), (9, 0), (9, 0), (9, 0), (9, 0), (0, 11), (0, 10), (1, 200), (0, 7), (1, 200), (0, 9), (1, 4), (1, 4), (0, 6), (3, 9), (1, 3), (0, 2), (1, 4), (1, 4), (4, 4), (2, 40), (1, 4), (1, 4), (1, 4), (0, 0), (1, 30), (9, 0), (9, 0), (9, 0), (9, 0), (9, 0), (9, 0), (9, 0), (9, 0), (9, 0), (0, 12), (1, 320), (1, 320), (1, 320), (1, 200), (1, 9), (1, 9), (1, 2), (1, 8), (1, 8), (1, 8), (1, 27), (1, 200), (1, 4), (1, 4), (1, 160), (1, 4), (1, 4), (1, 4), (1, 30), (9, 0), (9, 0), (9, 0), (9, 0), (9, 0), (9, 0), (9, 0), (9, 0), (9, 0), (9, 0), (5, 0), (9, 0), (9, 0), (9, 0), (9, 0), (6, 0), (7, 0), (9, 0)]
/-- where fields lead -/
def zED : List (List (Option (Option Nat × Nat))) := [[some (none, 1), some (none, 15), some (none, 19), none, some (none, 22)],
  [none, some (none, 2), some (none, 3), some (none, 4), some (none, 5), some (none, 6), none, none, none, some (none, 7)],
  [],
  [],
  [],
  [],
  [],
  [none, some (none, 8), some (none, 9), some (none, 10), some (none, 11), some (none, 12), some (none, 13), some (none, 14)],
  [],
  [],
  [],
  [],
  [],
  [],
  [],
  [none, some (none, 16), some (none, 17), some (none, 18)],
  [],
  [],
  [],
  [none, some (none, 20), some (none, 21), none, none],
  [],
  [],
  [],
  [],
  [],
  [],
  [],
  [],
  [],
  [],
  [some (some 0, 0), some (some 1, 0), some (some 2, 0), none, some (some 0, 31), some (some 0, 33), some (some 0, 35), some (some 0, 38), some (some 0, 41), some (some 0, 49)],
  [none, some (none, 32)],
  [],
  [some (some 4, 7), none, none, none, none, some (none, 34), none],
  [],
  [none, some (none, 36), some (none, 37), some (some 3, 0)],
  [],
  [],
  [none, some (none, 39)],
  [],
  [],
  [some (none, 42), some (none, 43), some (none, 44), some (none, 46), some (none, 47), some (none, 48)],
  [],
  [],
  [],
  [],
  [],
  [],
  [],
  [none, some (none, 50), none, none, none, none],
  [],
  [],
  [],
  [],
  [],
  [],
  [],
  [],
  [],
  [],
  [some (none, 61), some (none, 62), some (none, 63), none, some (none, 64), some (none, 65), some (none, 66), some (none, 67), some (none, 68), some (none, 69), some (none, 70), none, none, none, none, some (none, 71), none, some (none, 72), none, none, none, none, none, none, none, some (none, 73), some (none, 74), some (none, 75), some (none, 76), some (none, 77), some (none, 78), some (none, 79), none, none, none, none, none],
  [],
  [],
  [],
  [],
  [],
  [],
  [],
  [],
  [],
  [],
  [],
  [],
  [],
  [],
  [],
  [],
  [],
  [],
  [],
  [],
  [],
  [],
  [],
  [],
  [],
  [],
  [],
  [],
  [],
  [],
  [],
  [],
  [],
  [],
  [],
  [],
  []]
/-- how many cells of a kind -/
def zNIL : List Nat := [4, 4, 4, 4, 4, 4, 4, 5, 5, 5, 5, 5, 5, 5, 5, 4, 4, 4, 4, 4, 4, 4, 4, 0, 0, 0, 0, 0, 0, 0, 1, 1, 1, 1, 1, 1, 1, 1, 1, 1, 9, 1, 1, 1, 1, 4, 1, 1, 1, 1, 1, 0, 0, 0, 0, 0, 0, 0, 0, 0, 1, 1, 1, 1, 1, 1, 1, 1, 1, 1, 1, 1, 1, 1, 1, 1, 1, 1, 1, 1, 0, 0, 0, 0, 0, 0, 0, 0, 0, 0, 0, 0, 0, 0, 0, 0, 0, 0]
def zNI (k : Nat) : Nat := zNIL.getD k 0
def zFD : List (List (Nat × Nat × Nat)) := [[(9, 0, 1), (15, 0, 3), (19, 0, 4), (22, 0, 5), (25, 0, 2), (29, 0, 0)],
  [(9, 1, 1), (15, 1, 2), (18, 1, 3), (21, 1, 4), (24, 1, 5), (30, 1, 9), (34, 1, 0), (42, 1, 6), (45, 1, 7), (48, 1, 8)],
  [(9, 2, 0), (15, 2, 1), (20, 2, 2), (23, 2, 3), (26, 2, 4), (29, 2, 5)],
  [(12, 3, 0), (21, 3, 1), (28, 3, 2), (32, 3, 3), (36, 3, 4), (50, 1, 8), (53, 1, 3), (56, 4, 0), (59, 4, 3), (66, 4, 1), (69, 1, 0), (100, 1, 6)],
  [(9, 4, 1), (15, 4, 2), (18, 4, 3), (21, 4, 0)],
  [(9, 5, 1), (15, 5, 2), (18, 5, 0), (26, 5, 3), (29, 5, 4), (36, 3, 0)],
  [(11, 6, 1), (16, 6, 0), (20, 3, 0), (39, 1, 2)],
  [(12, 7, 0), (18, 7, 5), (22, 8, 0), (26, 7, 1), (29, 7, 3), (32, 7, 4), (35, 7, 6), (38, 10, 0), (87, 8, 1), (94, 8, 2), (97, 8, 3), (100, 8, 4), (112, 7, 2), (120, 8, 5)],
  [(9, 8, 1), (15, 8, 2), (18, 8, 3), (21, 8, 4), (24, 8, 5), (27, 8, 6), (30, 8, 7), (33, 8, 0)],
  [(9, 9, 1), (15, 9, 2), (21, 9, 3), (29, 9, 0), (33, 3, 1), (37, 4, 0), (44, 4, 3), (56, 4, 1), (59, 3, 0), (63, 1, 0), (89, 4, 2)],
  [(9, 10, 1), (15, 10, 0)],
  [(10, 11, 0), (16, 11, 1), (19, 11, 2), (25, 11, 4), (32, 11, 5), (39, 11, 6), (46, 11, 7), (53, 11, 8), (60, 11, 9), (68, 3, 0), (81, 1, 0), (92, 1, 1), (96, 1, 2), (99, 1, 3), (102, 1, 4), (119, 1, 7), (122, 1, 8), (125, 10, 0), (134, 1, 9), (138, 7, 0), (145, 8, 0), (149, 3, 1), (153, 4, 0), (161, 4, 1), (164, 4, 2), (167, 4, 3), (217, 9, 0), (218, 9, 2), (219, 9, 1), (234, 3, 2), (238, 5, 0), (251, 5, 3), (254, 5, 4), (257, 3, 3), (270, 6, 0), (274, 6, 1), (285, 2, 0), (295, 2, 2), (318, 2, 5), (321, 2, 4), (330, 0, 0), (348, 0, 2), (352, 0, 1), (358, 11, 3)],
  [(7, 12, 0), (13, 12, 1), (16, 12, 2), (19, 12, 4), (22, 12, 5), (25, 12, 6), (28, 12, 7), (31, 12, 8), (34, 12, 9), (37, 12, 10), (40, 12, 15), (43, 12, 17), (46, 12, 25), (49, 12, 26), (52, 12, 27), (55, 12, 28), (58, 12, 29), (61, 12, 30), (64, 12, 31), (191, 12, 11), (227, 12, 12), (233, 12, 13), (236, 12, 14), (249, 12, 16), (257, 12, 18), (270, 12, 20), (273, 12, 19), (285, 12, 24), (296, 12, 21), (329, 12, 23), (346, 12, 22), (402, 12, 36), (405, 12, 32), (408, 12, 35), (414, 12, 33), (420, 12, 34), (438, 12, 3)],
  [],
  [],
  [],
  [(9, 16, 0), (15, 16, 1), (38, 17, 0), (1053, 17, 1)],
  [],
  []]
def zMD : List (List (Nat × Nat × Nat × Nat)) := [[(32, 1, 2, 1), (36, 6, 2, 1), (40, 7, 2, 1), (43, 8, 2, 1), (46, 2, 2, 1), (49, 9, 2, 1), (52, 10, 2, 1), (55, 4, 2, 1), (58, 3, 2, 1)],
  [(38, 148, 2, 0), (51, 63, 2, 9), (55, 13, 2, 2), (59, 145, 2, 0), (63, 64, 6, 9), (67, 65, 2, 9), (71, 272, 2, 0)],
  [],
  [(40, 11, 2, 2), (44, 35, 2, 5), (47, 40, 2, 6), (62, 15, 3, 2), (70, 16, 2, 2), (74, 26, 2, 4), (77, 14, 2, 2), (81, 273, 2, 0), (87, 272, 2, 0), (90, 27, 1, 4), (93, 31, 1, 4), (97, 34, 2, 4), (103, 28, 3, 4)],
  [(25, 148, 2, 0)],
  [(22, 148, 2, 0), (32, 43, 3, 6), (41, 14, 2, 2), (47, 29, 1, 4), (51, 32, 2, 4), (55, 272, 2, 0), (61, 273, 2, 0)],
  [(26, 13, 2, 2), (32, 26, 2, 4), (36, 16, 2, 2)],
  [(41, 76, 2, 11), (45, 77, 2, 11), (49, 78, 3, 11), (53, 49, 2, 8), (56, 50, 2, 8), (59, 51, 2, 8), (62, 52, 2, 8), (65, 53, 2, 8), (68, 54, 2, 8), (71, 55, 2, 8), (74, 56, 2, 8), (77, 57, 2, 8), (80, 58, 2, 8), (83, 141, 3, 0), (90, 61, 2, 8), (103, 60, 2, 8), (106, 59, 1, 0), (109, 62, 2, 8), (115, 272, 2, 0)],
  [(37, 148, 2, 0), (41, 146, 2, 0), (45, 67, 3, 9), (48, 66, 3, 9), (52, 272, 2, 0), (57, 68, 3, 0)],
  [(25, 25, 2, 4), (40, 145, 2, 0), (45, 27, 1, 4), (48, 29, 1, 4), (52, 70, 2, 10), (66, 14, 2, 2), (69, 28, 3, 4), (73, 73, 3, 10), (77, 71, 4, 10), (81, 39, 2, 5), (85, 74, 4, 10)],
  [(19, 82, 1, 0), (23, 83, 1, 0), (26, 80, 3, 11), (30, 79, 3, 11), (35, 81, 4, 11), (73, 274, 1, 17), (79, 275, 2, 17)],
  [(64, 142, 1, 0), (72, 13, 2, 2), (77, 141, 3, 0), (85, 14, 2, 2), (88, 12, 5, 2), (105, 16, 2, 2), (109, 26, 2, 4), (112, 30, 2, 4), (115, 147, 3, 0), (126, 75, 3, 11), (130, 48, 2, 8), (139, 63, 2, 9), (146, 143, 1, 0), (156, 36, 3, 5), (160, 37, 2, 5), (170, 27, 1, 4), (173, 29, 1, 4), (177, 31, 1, 4), (180, 33, 1, 4), (183, 25, 2, 4), (186, 38, 2, 5), (189, 32, 2, 4), (192, 107, 2, 12), (196, 28, 3, 4), (200, 108, 2, 12), (203, 109, 1, 12), (206, 145, 2, 0), (210, 114, 2, 12), (213, 69, 3, 10), (222, 71, 4, 10), (226, 72, 4, 10), (229, 271, 1, 0), (241, 41, 3, 6), (244, 42, 3, 6), (248, 44, 1, 6), (260, 122, 1, 0), (263, 123, 1, 0), (267, 46, 3, 7), (271, 45, 3, 7), (278, 47, 2, 7), (282, 144, 1, 0), (288, 17, 4, 3), (292, 19, 3, 3), (299, 138, 2, 0), (303, 18, 3, 3), (306, 20, 3, 3), (309, 21, 3, 3), (312, 22, 2, 3), (315, 24, 2, 3), (324, 137, 2, 12), (327, 146, 2, 0), (333, 0, 4, 1), (336, 2, 2, 1), (339, 3, 2, 1), (342, 4, 2, 1), (345, 5, 2, 1), (355, 23, 2, 3), (361, 273, 2, 0), (366, 282, 5, 0)],
  [(67, 149, 3, 0), (71, 155, 2, 0), (75, 156, 3, 13), (84, 150, 2, 13), (88, 159, 2, 0), (92, 157, 2, 13), (95, 162, 3, 13), (98, 163, 3, 0), (102, 161, 2, 0), (105, 164, 4, 13), (108, 165, 2, 13), (112, 158, 2, 13), (115, 179, 2, 13), (118, 178, 3, 13), (121, 167, 3, 13), (125, 168, 1, 13), (128, 169, 2, 13), (131, 170, 1, 13), (135, 166, 1, 13), (140, 172, 1, 13), (143, 177, 2, 0), (148, 151, 2, 13), (153, 182, 2, 13), (156, 180, 3, 13), (159, 187, 1, 13), (162, 189, 3, 13), (165, 190, 1, 13), (168, 153, 1, 13), (171, 154, 1, 13), (174, 193, 1, 13), (177, 196, 2, 13), (180, 171, 1, 13), (184, 201, 3, 13), (188, 204, 1, 0), (195, 206, 2, 13), (198, 152, 2, 0), (201, 205, 2, 13), (206, 207, 2, 13), (209, 213, 3, 13), (212, 210, 2, 13), (215, 212, 5, 13), (219, 211, 2, 0), (224, 214, 2, 0), (230, 219, 3, 13), (239, 220, 2, 13), (246, 224, 1, 13), (252, 227, 3, 13), (276, 232, 2, 13), (279, 233, 1, 0), (282, 234, 1, 0), (289, 235, 1, 13), (299, 236, 2, 13), (303, 237, 1, 13), (332, 240, 1, 13), (335, 241, 2, 13), (338, 238, 2, 13), (341, 242, 1, 13), (349, 246, 1, 13), (352, 243, 1, 13), (355, 244, 1, 13), (360, 245, 1, 13), (365, 239, 1, 13), (376, 247, 1, 13), (379, 249, 1, 0), (384, 251, 2, 0), (387, 253, 3, 13), (392, 184, 3, 13), (399, 257, 2, 13), (411, 259, 2, 13), (417, 260, 2, 13), (423, 262, 2, 13), (426, 261, 2, 13), (429, 263, 2, 13), (432, 264, 2, 13), (435, 266, 1, 13)],
  [],
  [],
  [(13, 84, 5, 12), (17, 160, 5, 13), (18, 85, 3, 12), (22, 173, 3, 13), (23, 86, 4, 12), (27, 174, 4, 13), (28, 87, 3, 12), (31, 175, 3, 13), (32, 88, 3, 12), (35, 176, 3, 13), (38, 89, 3, 12), (42, 231, 3, 13), (43, 90, 1, 12), (47, 248, 1, 13), (48, 91, 3, 12), (51, 181, 3, 13), (52, 92, 3, 12), (55, 183, 3, 13), (56, 93, 3, 12), (59, 184, 3, 13), (60, 94, 2, 12), (64, 185, 2, 13), (65, 95, 1, 12), (68, 186, 1, 13), (69, 96, 1, 12), (72, 188, 1, 13), (73, 97, 1, 12), (76, 191, 1, 13), (77, 98, 1, 12), (80, 192, 1, 13), (81, 99, 2, 12), (84, 194, 2, 13), (85, 100, 1, 12), (88, 195, 1, 13), (89, 101, 2, 12), (92, 197, 2, 13), (93, 102, 2, 12), (96, 198, 2, 13), (97, 103, 2, 12), (100, 199, 2, 13), (101, 104, 1, 12), (104, 200, 1, 13), (105, 105, 1, 12), (108, 202, 1, 13), (109, 106, 1, 12), (112, 203, 1, 13), (113, 110, 3, 12), (116, 208, 3, 13), (117, 111, 2, 12), (120, 209, 2, 13), (121, 112, 3, 12), (124, 215, 3, 13), (125, 113, 3, 12), (128, 216, 3, 13), (129, 115, 3, 12), (132, 217, 3, 13), (133, 116, 1, 12), (136, 218, 1, 13), (137, 117, 2, 12), (140, 221, 2, 13), (141, 118, 1, 12), (144, 222, 1, 13), (145, 119, 2, 12), (148, 223, 2, 13), (149, 120, 1, 12), (152, 224, 1, 13), (153, 121, 2, 12), (156, 225, 2, 13), (157, 124, 2, 12), (160, 226, 2, 13), (161, 125, 3, 12), (164, 228, 3, 13), (165, 126, 4, 12), (168, 229, 4, 13), (169, 127, 1, 12), (172, 230, 1, 13), (173, 128, 4, 12), (176, 250, 4, 13), (177, 129, 4, 12), (180, 252, 4, 13), (181, 130, 4, 12), (184, 254, 4, 13), (185, 131, 5, 12), (188, 255, 5, 13), (189, 132, 4, 12), (192, 256, 4, 13), (193, 133, 3, 12), (196, 258, 3, 13), (197, 134, 4, 12), (200, 265, 4, 13), (201, 135, 2, 12), (204, 267, 2, 13), (205, 136, 2, 12), (208, 268, 2, 13), (209, 139, 1, 12), (212, 269, 1, 13), (213, 140, 1, 12), (216, 270, 1, 13)],
  [(335, 276, 1, 17), (492, 277, 1, 17), (495, 279, 2, 0), (1059, 280, 3, 0)],
  [(9, 278, 2, 0)],
  []]
def zSD : List (List (Nat × Nat × Nat)) := [[],
  [],
  [],
  [],
  [],
  [],
  [],
  [],
  [],
  [],
  [(33, 0, 0), (39, 1, 0), (41, 2, 0), (43, 3, 0), (45, 4, 0), (47, 5, 0), (49, 6, 0), (51, 7, 0), (53, 8, 0), (55, 9, 0), (57, 10, 0), (59, 11, 0), (61, 12, 0), (63, 13, 0), (65, 14, 0), (67, 15, 0), (69, 16, 0), (71, 17, 0)],
  [],
  [],
  [],
  [],
  [],
  [],
  [],
  []]
/-- the texts' bytes -/
def zSL : List (List Int32) := [[98, 111, 117, 103, 104], [103, 114, 101, 101, 110], [100, 114, 121], [111, 108, 100], [112, 114, 111, 112, 112, 101, 100], [107, 105, 110, 103, 115], [109, 111, 114, 101], [108, 101, 115, 115], [99, 117, 116], [105, 102], [110, 111, 116], [97, 110, 100], [111, 114], [115, 97, 112], [119, 105, 110, 100], [108, 111, 110, 103], [104, 111, 108, 100, 115], [110, 117, 109, 98, 101, 114]]
/-- methods: class, what comes back -/
def zMI : List (Nat × Nat) := [(0, 0), (0, 0), (0, 1), (0, 1), (0, 1), (0, 1), (0, 1), (0, 1), (0, 1), (0, 1), (0, 1), (1, 0), (1, 1), (1, 3), (1, 3), (1, 3), (1, 1), (2, 0), (2, 1), (2, 3), (2, 0), (2, 0), (2, 0), (2, 3), (2, 3), (3, 0), (3, 1), (3, 0), (3, 0), (3, 1), (3, 1), (3, 1), (3, 1), (3, 1), (3, 1), (4, 0), (4, 1), (4, 3), (4, 1), (4, 1), (5, 0), (5, 1), (5, 0), (5, 0), (5, 1), (6, 3), (6, 0), (6, 1), (7, 1), (7, 3), (7, 3), (7, 3), (7, 3), (7, 3), (7, 3), (7, 3), (7, 3), (7, 3), (7, 3), (7, 3), (7, 0), (7, 0), (7, 0), (8, 0), (8, 0), (8, 1), (8, 1), (8, 3), (8, 3), (9, 3), (9, 3), (9, 1), (9, 1), (9, 1), (9, 1), (10, 0), (10, 3), (10, 1), (10, 1), (10, 1), (10, 1), (10, 3), (10, 3), (10, 3), (11, 1), (11, 1), (11, 1), (11, 1), (11, 1), (11, 1), (11, 1), (11, 1), (11, 1), (11, 1), (11, 1), (11, 1), (11, 1), (11, 1), (11, 1), (11, 1), (11, 1), (11, 1), (11, 1), (11, 1), (11, 1), (11, 1), (11, 1), (11, 0), (11, 1), (11, 1), (11, 1), (11, 1), (11, 1), (11, 1), (11, 3), (11, 1), (11, 1), (11, 1), (11, 1), (11, 1), (11, 1), (11, 1), (11, 1), (11, 1), (11, 1), (11, 1), (11, 1), (11, 1), (11, 1), (11, 1), (11, 1), (11, 1), (11, 1), (11, 1), (11, 1), (11, 1), (11, 1), (11, 1), (11, 2), (11, 1), (11, 1), (11, 3), (11, 3), (11, 3), (11, 3), (11, 3), (11, 3), (11, 1), (11, 0), (12, 3), (12, 3), (12, 3), (12, 3), (12, 0), (12, 0), (12, 1), (12, 1), (12, 3), (12, 1), (12, 3), (12, 1), (12, 3), (12, 1), (12, 3), (12, 3), (12, 1), (12, 0), (12, 0), (12, 0), (12, 3), (12, 1), (12, 3), (12, 0), (12, 1), (12, 1), (12, 1), (12, 1), (12, 1), (12, 1), (12, 1), (12, 0), (12, 1), (12, 1), (12, 1), (12, 1), (12, 1), (12, 1), (12, 1), (12, 1), (12, 3), (12, 1), (12, 1), (12, 1), (12, 0), (12, 1), (12, 1), (12, 1), (12, 1), (12, 1), (12, 1), (12, 1), (12, 1), (12, 1), (12, 1), (12, 1), (12, 3), (12, 3), (12, 3), (12, 1), (12, 1), (12, 1), (12, 1), (12, 1), (12, 1), (12, 3), (12, 1), (12, 1), (12, 1), (12, 1), (12, 3), (12, 0), (12, 1), (12, 1), (12, 1), (12, 1), (12, 1), (12, 1), (12, 3), (12, 1), (12, 1), (12, 1), (12, 1), (12, 1), (12, 3), (12, 3), (12, 0), (12, 0), (12, 2), (12, 0), (12, 1), (12, 1), (12, 0), (12, 0), (12, 0), (12, 0), (12, 0), (12, 0), (12, 0), (12, 1), (12, 3), (12, 1), (12, 1), (12, 1), (12, 1), (12, 1), (12, 1), (12, 1), (12, 1), (12, 1), (12, 0), (12, 1), (12, 1), (12, 1), (12, 1), (12, 1), (12, 1), (12, 1), (12, 1), (12, 1), (12, 1), (12, 1), (13, 1), (14, 1), (14, 1), (16, 1), (16, 4), (16, 5), (16, 3), (16, 0), (17, 4), (18, 1), (15, 3), (19, 0)]
/-- fields that are booleans -/
def zbl (c j : Nat) : Bool := (Nat.beq c 0 && Nat.beq j 2) || (Nat.beq c 11 && Nat.beq j 3) || (Nat.beq c 12 && Nat.beq j 3) || (Nat.beq c 12 && Nat.beq j 24) || (Nat.beq c 12 && Nat.beq j 36)
end
section
/-! A small interpreter of the methods that make nothing: values, memory, one step, runs, calls. Memory is flat: cell (g, k), place i; k tells the kind, g which one of the kind. -/
abbrev zV : Type := Int32 ⊕ Int64 ⊕ (Nat × Nat)
abbrev zM : Type := (Nat → Nat → Nat → Int32) × (Nat → Nat → Nat → Int64)
abbrev zR : Type := Option (Int32 × Int64 × zM)
abbrev zL : Type := List (Option zV)
abbrev zC : Type := Nat → List zV → zM → zR
abbrev zKt : Type := Nat → zL → List zV → zM → zR
/-- an instruction: itself, the next place, the target, constants, the cases of a switch, which locals are asked from here on ([]: any) -/
abbrev zE : Type := ClassFile.Instr × Nat × Nat × Int32 × Int64 × List (Int32 × Nat) × List Bool
/-- a method: its class, its code, what it returns, its locals -/
abbrev zT : Type := Nat × List (List (Nat × zE)) × Nat × Nat
/-- a choice that leaves no trace -/
def zcb (b : Bool) (x y : zR) : zR := match b with
  | true => x
  | false => y
/-- a guard that is never looked into by computing -/
noncomputable def zgS : { f : Bool → zR → zR // ∀ b x, f b x = zcb b x none } := Classical.choice ⟨⟨fun b x => zcb b x none, fun _ _ => rfl⟩⟩
noncomputable def zgd (b : Bool) (x : zR) : zR := zgS.1 b x
theorem zgd_eq (b : Bool) (x : zR) : zgd b x = zcb b x none := zgS.2 b x
theorem zgd_t {b : Bool} {x : zR} (h : b = true) : zgd b x = x := by rw [zgd_eq, h]; rfl
theorem zgd_some {b : Bool} {x : zR} {r} (h : zgd b x = some r) : b = true ∧ x = some r := by
  rw [zgd_eq] at h
  cases b
  · cases h
  · exact ⟨rfl, h⟩
def zin (x : Int32) (n : Nat) : Bool := decide (0 ≤ x) && Nat.blt x.toNatClampNeg n
def z01 (x : Int32) : Bool := decide (x = 0) || decide (x = 1)
def zget : zL → Nat → Option zV
  | [], _ => none
  | v :: _, 0 => v
  | _ :: r, n + 1 => zget r n
def zput : zL → Nat → zV → zL
  | [], _, _ => []
  | _ :: r, 0, v => some v :: r
  | a :: r, 1, v => (match a with | some (.inr (.inl _)) => none | b => b) :: zput r 0 v
  | a :: r, n + 2, v => a :: zput r (n + 1) v
def zcut : zL → Nat → zL
  | [], _ => []
  | _ :: r, 0 => none :: r
  | a :: r, n + 1 => a :: zcut r n
/-- only the locals that are asked later on -/
def zmk : List Bool → zL → zL
  | [], l => l
  | _ :: _, [] => []
  | b :: m, v :: l => (bif b then v else none) :: zmk m l
def zwI (σ : zM) (g k i : Nat) (v : Int32) : zM := (fun g' k' i' => if g' = g ∧ k' = k ∧ i' = i then v else σ.1 g' k' i', σ.2)
def zwL (σ : zM) (g k i : Nat) (v : Int64) : zM := (σ.1, fun g' k' i' => if g' = g ∧ k' = k ∧ i' = i then v else σ.2 g' k' i')
def zpop : Nat → List zV → List zV → Option (List zV × List zV)
  | 0, st, acc => some (acc, st)
  | _ + 1, [], _ => none
  | n + 1, v :: st, acc => zpop n st (v :: acc)
def zas : List (Nat × zE) → Nat → Option zE
  | [], _ => none
  | (p, e) :: r, k => bif Nat.beq p k then some e else zas r k
def zfa : List (Nat × Nat × Nat) → Nat → Option (Nat × Nat)
  | [], _ => none
  | (p, e) :: r, k => bif Nat.beq p k then some e else zfa r k
/-- a call's words: number of the method, how many values, the class of the receiver and 1 more, 0: static -/
def zma : List (Nat × Nat × Nat × Nat) → Nat → Option (Nat × Nat × Nat)
  | [], _ => none
  | (p, e) :: r, k => bif Nat.beq p k then some e else zma r k
def zsw (K : Nat → zR) (x : Int32) (df : Nat) : List (Int32 × Nat) → zR
  | [] => K df
  | (v, t) :: r => if x = v then K t else zsw K x df r
def zo1 (st : List zV) (f : Int32 → List zV → zR) : zR := match st with | .inl x :: r => f x r | _ => none
def zo2 (st : List zV) (f : Int32 → Int32 → List zV → zR) : zR := match st with | .inl y :: .inl x :: r => f y x r | _ => none
def zl1 (st : List zV) (f : Int64 → List zV → zR) : zR := match st with | .inr (.inl x) :: r => f x r | _ => none
def zl2 (st : List zV) (f : Int64 → Int64 → List zV → zR) : zR := match st with | .inr (.inl y) :: .inr (.inl x) :: r => f y x r | _ => none
def zli (st : List zV) (f : Int32 → Int64 → List zV → zR) : zR := match st with | .inl y :: .inr (.inl x) :: r => f y x r | _ => none
def zr1 (st : List zV) (f : Nat → Nat → List zV → zR) : zR := match st with | .inr (.inr (g, k)) :: r => f g k r | _ => none
def zir (st : List zV) (f : Int32 → Nat → Nat → List zV → zR) : zR := match st with | .inl i :: .inr (.inr (g, k)) :: r => f i g k r | _ => none
def ziir (st : List zV) (f : Int32 → Int32 → Nat → Nat → List zV → zR) : zR := match st with | .inl v :: .inl i :: .inr (.inr (g, k)) :: r => f v i g k r | _ => none
def zlir (st : List zV) (f : Int64 → Int32 → Nat → Nat → List zV → zR) : zR := match st with | .inr (.inl v) :: .inl i :: .inr (.inr (g, k)) :: r => f v i g k r | _ => none
def zvI (v : Option zV) (f : Int32 → zR) : zR := match v with | some (.inl x) => f x | _ => none
def zvL (v : Option zV) (f : Int64 → zR) : zR := match v with | some (.inr (.inl x)) => f x | _ => none
def zvR (v : Option zV) (f : Nat → Nat → zR) : zR := match v with | some (.inr (.inr (g, k))) => f g k | _ => none
/-- of a cell's kind: 0 an object of the class n, 1 ints, 2 longs, 3 rows of ints, 4 rows of longs, 5 the script, 6 a text, 7 a text's bytes -/
def zkd (k : Nat) : Nat × Nat := zKD.getD k (9, 0)
/-- where a field leads: none: a number's; else the group (none: the same) and the kind -/
def zed (k j : Nat) : Option (Option Nat × Nat) := (zED.getD k []).getD j none
def zfd (own i : Nat) : Option (Nat × Nat) := zfa (zFD.getD own []) i
def zmd (own i : Nat) : Option (Nat × Nat × Nat) := zma (zMD.getD own []) i
def zsd (own i : Nat) : Option Nat := (zfa (zSD.getD own []) i).map Prod.fst
def zret (rk : Nat) (x : Int32) : Bool := match rk with
  | 1 => true
  | 3 => z01 x
  | 4 => decide (0 ≤ x) && decide (x < 65536)
  | 5 => decide (-128 ≤ x) && decide (x < 128)
  | _ => false
def zcal (rk nx : Nat) (K : zKt) (ls : zL) (rest : List zV) (x : Int32 × Int64 × zM) : zR := match rk with
  | 0 => K nx ls rest x.2.2
  | 2 => K nx ls (.inr (.inl x.2.1) :: rest) x.2.2
  | _ => K nx ls (.inl x.1 :: rest) x.2.2
/-- the receiver is of the class -/
def zrc (rc : Nat) (as : List zV) : Bool := match rc with
  | 0 => true
  | c + 1 => match as with
    | .inr (.inr (_, k)) :: _ => match zkd k with
      | (0, n) => Nat.beq n c
      | (6, _) => Nat.beq 16 c
      | _ => false
    | _ => false
def zslen (σ : zM) : Nat := (σ.1 0 91 0).toNatClampNeg
noncomputable def zinv (C : zC) (own nx i : Nat) (K : zKt) (ls : zL) (st : List zV) (σ : zM) : zR :=
  match zmd own i with
  | none => none
  | some (j, n, rc) => match zpop n st [] with
    | none => none
    | some (as, rest) => zcb (zrc rc as) ((C j as σ).bind (zcal (zMI.getD j (0, 9)).2 nx K ls rest)) none
noncomputable def zop (C : zC) (own rk : Nat) (K : zKt) (ls : zL) (st : List zV) (σ : zM) : zE → zR
  | (ins, nx, tg, c, d, sw, _) => match ins with
    | .iconst _ => K nx ls (.inl c :: st) σ
    | .bipush _ => K nx ls (.inl c :: st) σ
    | .sipush _ => K nx ls (.inl c :: st) σ
    | .ldc i => match zsd own i with
      | some j => K nx ls (.inr (.inr (j, 95)) :: st) σ
      | none => K nx ls (.inl c :: st) σ
    | .ldc_w _ => K nx ls (.inl c :: st) σ
    | .lconst _ => K nx ls (.inr (.inl d) :: st) σ
    | .ldc2_w _ => K nx ls (.inr (.inl d) :: st) σ
    | .iload_n a => zvI (zget ls a.val) fun x => K nx ls (.inl x :: st) σ
    | .iload a => zvI (zget ls a) fun x => K nx ls (.inl x :: st) σ
    | .lload_n a => zvL (zget ls a.val) fun x => K nx ls (.inr (.inl x) :: st) σ
    | .lload a => zvL (zget ls a) fun x => K nx ls (.inr (.inl x) :: st) σ
    | .aload_n a => zvR (zget ls a.val) fun g k => K nx ls (.inr (.inr (g, k)) :: st) σ
    | .istore_n a => zo1 st fun x r => K nx (zput ls a.val (.inl x)) r σ
    | .istore a => zo1 st fun x r => K nx (zput ls a (.inl x)) r σ
    | .lstore_n a => zl1 st fun x r => K nx (zcut (zput ls a.val (.inr (.inl x))) (a.val + 1)) r σ
    | .iinc a _ => zvI (zget ls a) fun x => K nx (zput ls a (.inl (x + c))) st σ
    | .iadd => zo2 st fun y x r => K nx ls (.inl (x + y) :: r) σ
    | .isub => zo2 st fun y x r => K nx ls (.inl (x - y) :: r) σ
    | .imul => zo2 st fun y x r => K nx ls (.inl (x * y) :: r) σ
    | .idiv => zo2 st fun y x r => if y = 0 then none else K nx ls (.inl (x / y) :: r) σ
    | .irem => zo2 st fun y x r => if y = 0 then none else K nx ls (.inl (x - x / y * y) :: r) σ
    | .ineg => zo1 st fun x r => K nx ls (.inl (-x) :: r) σ
    | .iand => zo2 st fun y x r => K nx ls (.inl (x &&& y) :: r) σ
    | .ior => zo2 st fun y x r => K nx ls (.inl (x ||| y) :: r) σ
    | .ixor => zo2 st fun y x r => K nx ls (.inl (x ^^^ y) :: r) σ
    | .ishl => zo2 st fun y x r => K nx ls (.inl (x <<< (y &&& 31)) :: r) σ
    | .ishr => zo2 st fun y x r => K nx ls (.inl (x >>> (y &&& 31)) :: r) σ
    | .iushr => zo2 st fun y x r => K nx ls (.inl (x.toUInt32 >>> (y.toUInt32 &&& Int32.toUInt32 31)).toInt32 :: r) σ
    | .ladd => zl2 st fun y x r => K nx ls (.inr (.inl (x + y)) :: r) σ
    | .lmul => zl2 st fun y x r => K nx ls (.inr (.inl (x * y)) :: r) σ
    | .land => zl2 st fun y x r => K nx ls (.inr (.inl (x &&& y)) :: r) σ
    | .lor => zl2 st fun y x r => K nx ls (.inr (.inl (x ||| y)) :: r) σ
    | .lshl => zli st fun y x r => K nx ls (.inr (.inl (x <<< (y.toInt64 &&& 63))) :: r) σ
    | .lshr => zli st fun y x r => K nx ls (.inr (.inl (x >>> (y.toInt64 &&& 63))) :: r) σ
    | .lushr => zli st fun y x r => K nx ls (.inr (.inl (x.toUInt64 >>> (y.toInt64.toUInt64 &&& Int64.toUInt64 63)).toInt64) :: r) σ
    | .lcmp => zl2 st fun y x r => K nx ls (.inl (lg_cmp x y) :: r) σ
    | .i2l => zo1 st fun x r => K nx ls (.inr (.inl x.toInt64) :: r) σ
    | .l2i => zl1 st fun x r => K nx ls (.inl x.toInt32 :: r) σ
    | .i2b => zo1 st fun x r => K nx ls (.inl x.toInt8.toInt32 :: r) σ
    | .i2s => zo1 st fun x r => K nx ls (.inl x.toInt16.toInt32 :: r) σ
    | .i2c => zo1 st fun x r => K nx ls (.inl (x.toUInt32 % 65536).toInt32 :: r) σ
    | .dup => match st with
      | .inl x :: r => K nx ls (.inl x :: .inl x :: r) σ
      | .inr (.inr q) :: r => K nx ls (.inr (.inr q) :: .inr (.inr q) :: r) σ
      | _ => none
    | .pop => match st with
      | .inl _ :: r => K nx ls r σ
      | .inr (.inr _) :: r => K nx ls r σ
      | _ => none
    | .dup2 => zir st fun i g k r => K nx ls (.inl i :: .inr (.inr (g, k)) :: .inl i :: .inr (.inr (g, k)) :: r) σ
    | .goto _ => K tg ls st σ
    | .ifCond .eq _ => zo1 st fun x r => if x = 0 then K tg ls r σ else K nx ls r σ
    | .ifCond .ne _ => zo1 st fun x r => if x = 0 then K nx ls r σ else K tg ls r σ
    | .ifCond .lt _ => zo1 st fun x r => if x < 0 then K tg ls r σ else K nx ls r σ
    | .ifCond .ge _ => zo1 st fun x r => if x < 0 then K nx ls r σ else K tg ls r σ
    | .ifCond .gt _ => zo1 st fun x r => if 0 < x then K tg ls r σ else K nx ls r σ
    | .ifCond .le _ => zo1 st fun x r => if 0 < x then K nx ls r σ else K tg ls r σ
    | .if_icmp .eq _ => zo2 st fun y x r => if x = y then K tg ls r σ else K nx ls r σ
    | .if_icmp .ne _ => zo2 st fun y x r => if x = y then K nx ls r σ else K tg ls r σ
    | .if_icmp .lt _ => zo2 st fun y x r => if x < y then K tg ls r σ else K nx ls r σ
    | .if_icmp .ge _ => zo2 st fun y x r => if x < y then K nx ls r σ else K tg ls r σ
    | .if_icmp .gt _ => zo2 st fun y x r => if y < x then K tg ls r σ else K nx ls r σ
    | .if_icmp .le _ => zo2 st fun y x r => if y < x then K nx ls r σ else K tg ls r σ
    | .tableswitch _ _ _ _ => zo1 st fun x r => zsw (fun t => K t ls r σ) x tg sw
    | .lookupswitch _ _ => zo1 st fun x r => zsw (fun t => K t ls r σ) x tg sw
    | .getfield i => zr1 st fun g k r => match zfd own i with
      | none => none
      | some (ci, j) => match zkd k with
        | (0, n) => zcb (Nat.beq n ci) (match zed k j with
          | none => K nx ls (.inl (σ.1 g k j) :: r) σ
          | some (none, k2) => K nx ls (.inr (.inr (g, k2)) :: r) σ
          | some (some g2, k2) => K nx ls (.inr (.inr (g2, k2)) :: r) σ) none
        | (6, _) => zcb (Nat.beq 16 ci) (match j with
          | 0 => K nx ls (.inr (.inr (g, 96)) :: r) σ
          | _ => K nx ls (.inl 0 :: r) σ) none
        | _ => none
    | .putfield i => match st with
      | .inl x :: .inr (.inr (g, k)) :: r => match zfd own i with
        | none => none
        | some (ci, j) => match zkd k with
          | (0, n) => zcb (Nat.beq n ci && (zed k j).isNone) (zcb (zbl ci j) (zgd (z01 x) (K nx ls r (zwI σ g k j x))) (K nx ls r (zwI σ g k j x))) none
          | _ => none
      | _ => none
    | .getstatic i => match zfd own i with
      | some (17, 0) => K nx ls (.inl 1 :: st) σ
      | some (17, 1) => K nx ls (.inr (.inr (0, 99)) :: st) σ
      | _ => none
    | .iaload => zir st fun i g k r => match zkd k with
      | (1, n) => (match tg with
        | 0 => zgd (zin i n) (K nx ls (.inl (σ.1 g k i.toNatClampNeg) :: r) σ)
        | m + 1 => zcb (decide (i = nI m) && Nat.blt m n) (K nx ls (.inl (σ.1 g k m) :: r) σ) none)
      | (5, _) => zgd (zin i (zslen σ)) (K nx ls (.inl (σ.1 g k i.toNatClampNeg) :: r) σ)
      | _ => none
    | .laload => zir st fun i g k r => match zkd k with
      | (2, n) => zgd (zin i n) (K nx ls (.inr (.inl (σ.2 g k i.toNatClampNeg)) :: r) σ)
      | _ => none
    | .aaload => zir st fun i _ k r => match zkd k with
      | (3, n) => zgd (zin i n) (K nx ls (.inr (.inr (i.toNatClampNeg, k + 1)) :: r) σ)
      | (4, n) => zgd (zin i n) (K nx ls (.inr (.inr (i.toNatClampNeg, k + 1)) :: r) σ)
      | _ => none
    | .baload => zir st fun i g k r => match zkd k with
      | (7, _) => zgd (zin i (zSL.getD g []).length) (K nx ls (.inl ((zSL.getD g []).getD i.toNatClampNeg 0) :: r) σ)
      | _ => none
    | .iastore => ziir st fun v i g k r => match zkd k with
      | (1, n) => (match tg with
        | 0 => zgd (zin i n) (K nx ls r (zwI σ g k i.toNatClampNeg v))
        | m + 1 => zcb (decide (i = nI m) && Nat.blt m n) (K nx ls r (zwI σ g k m v)) none)
      | _ => none
    | .lastore => zlir st fun v i g k r => match zkd k with
      | (2, n) => zgd (zin i n) (K nx ls r (zwL σ g k i.toNatClampNeg v))
      | _ => none
    | .arraylength => zr1 st fun g k r => match zkd k with
      | (1, n) => K nx ls (.inl (nI n) :: r) σ
      | (5, _) => K nx ls (.inl (σ.1 0 91 0) :: r) σ
      | (7, _) => K nx ls (.inl (nI (zSL.getD g []).length) :: r) σ
      | _ => none
    | .invokevirtual i => zinv C own nx i K ls st σ
    | .invokestatic i => zinv C own nx i K ls st σ
    | .ireturn => match st with
      | [.inl x] => (match rk with
        | 1 => some (x, 0, σ)
        | _ => zgd (zret rk x) (some (x, 0, σ)))
      | _ => none
    | .lreturn => match st with
      | [.inr (.inl x)] => zcb (Nat.beq rk 2) (some (0, x, σ)) none
      | _ => none
    | .return_ => match st with
      | [] => zcb (Nat.beq rk 0) (some (0, 0, σ)) none
      | _ => none
    | _ => none
noncomputable def zst (C : zC) (T : zT) (K : zKt) (pc : Nat) (ls : zL) (st : List zV) (σ : zM) : zR :=
  match zas (T.2.1.getD (pc / 32) []) pc with
  | none => none
  | some e => zop C T.1 T.2.2.1 K (zmk e.2.2.2.2.2.2 ls) st σ e
noncomputable def zrF (C : zC) (T : zT) : Nat → zKt
  | 0 => fun _ _ _ _ => none
  | n + 1 => zst C T (zrF C T n)
/-- the run, to its end -/
noncomputable def zrun (C : zC) (T : zT) : zKt := fun pc ls st σ =>
  @dite zR (∃ r, ∃ n, zrF C T n pc ls st σ = some r) (Classical.propDecidable _) (fun h => some (Classical.choose h)) (fun _ => none)
/-- as far as n steps lead, or to a cut -/
noncomputable def zit (C : zC) (T : zT) (cuts : List Nat) : Nat → zKt
  | 0 => zrun C T
  | n + 1 => fun pc ls st σ => zcb (cuts.any (Nat.beq pc)) (zrun C T pc ls st σ) (zst C T (zit C T cuts n) pc ls st σ)
end
section
noncomputable def zI_0 : List (List (Nat × zE)) := [[(0, (.aload_n 0, 1, 0, 0, 0, [], [])), (1, (.iload_n 1, 2, 0, 0, 0, [], [])), (2, (.putfield 15, 5, 0, 0, 0, [], [])), (5, (.aload_n 0, 6, 0, 0, 0, [], [])), (6, (.iload_n 2, 7, 0, 0, 0, [], [])), (7, (.putfield 19, 10, 0, 0, 0, [], [])), (10, (.aload_n 0, 11, 0, 0, 0, [], [])), (11, (.iload_n 3, 12, 0, 0, 0, [], [])), (12, (.putfield 22, 15, 0, 0, 0, [], [])), (15, (.aload_n 0, 16, 0, 0, 0, [], [])), (16, (.iconst 0, 17, 0, 0, 0, [], [])), (17, (.putfield 25, 20, 0, 0, 0, [], [])), (20, (.return_, 21, 0, 0, 0, [], []))]]
noncomputable abbrev zT_0 : zT := (0, zI_0, 0, 4) -- X0_take
noncomputable def zI_1 : List (List (Nat × zE)) := [[(0, (.aload_n 0, 1, 0, 0, 0, [], [])), (1, (.getfield 25, 4, 0, 0, 0, [], [])), (4, (.ifCond .ne 32, 7, 36, 0, 0, [], [])), (7, (.aload_n 0, 8, 0, 0, 0, [], [])), (8, (.getfield 29, 11, 0, 0, 0, [], [])), (11, (.bipush 30, 13, 0, 30, 0, [], [])), (13, (.if_icmp .ge 23, 16, 36, 0, 0, [], [])), (16, (.aload_n 0, 17, 0, 0, 0, [], [])), (17, (.getfield 9, 20, 0, 0, 0, [], [])), (20, (.aload_n 0, 21, 0, 0, 0, [], [])), (21, (.getfield 29, 24, 0, 0, 0, [], [])), (24, (.iload_n 1, 25, 0, 0, 0, [], [])), (25, (.iastore, 26, 0, 0, 0, [], [])), (26, (.aload_n 0, 27, 0, 0, 0, [], [])), (27, (.dup, 28, 0, 0, 0, [], [])), (28, (.getfield 29, 31, 0, 0, 0, [], [])), (31, (.iconst 1, 32, 0, 1, 0, [], []))],
  [(32, (.iadd, 33, 0, 0, 0, [], [])), (33, (.putfield 29, 36, 0, 0, 0, [], [])), (36, (.return_, 37, 0, 0, 0, [], []))]]
noncomputable abbrev zT_1 : zT := (0, zI_1, 0, 2) -- X0_begin
noncomputable def zI_2 : List (List (Nat × zE)) := [[(0, (.aload_n 0, 1, 0, 0, 0, [], [])), (1, (.getfield 15, 4, 0, 0, 0, [], [])), (4, (.lookupswitch 59 #[(1, 28), (3, 42)], 32, 63, 0, 0, [(1, 32), (3, 46)], []))],
  [(32, (.aload_n 0, 33, 0, 0, 0, [], [])), (33, (.bipush 20, 35, 0, 20, 0, [], [])), (35, (.invokevirtual 32, 38, 0, 0, 0, [], [])), (38, (.aload_n 0, 39, 0, 0, 0, [], [])), (39, (.iload_n 1, 40, 0, 0, 0, [], [])), (40, (.invokevirtual 36, 43, 0, 0, 0, [], [])), (43, (.iconst 3, 44, 0, 3, 0, [], [])), (44, (.imul, 45, 0, 0, 0, [], [])), (45, (.ireturn, 46, 0, 0, 0, [], [])), (46, (.aload_n 0, 47, 0, 0, 0, [], [])), (47, (.bipush 50, 49, 0, 50, 0, [], [])), (49, (.invokevirtual 32, 52, 0, 0, 0, [], [])), (52, (.aload_n 0, 53, 0, 0, 0, [], [])), (53, (.iload_n 1, 54, 0, 0, 0, [], [])), (54, (.invokevirtual 36, 57, 0, 0, 0, [], [])), (57, (.aload_n 0, 58, 0, 0, 0, [], [])), (58, (.getfield 19, 61, 0, 0, 0, [], [])), (61, (.ixor, 62, 0, 0, 0, [], [])), (62, (.ireturn, 63, 0, 0, 0, [], [])), (63, (.aload_n 0, 64, 0, 0, 0, [], []))],
  [(64, (.iload_n 1, 65, 0, 0, 0, [], [])), (65, (.invokevirtual 36, 68, 0, 0, 0, [], [])), (68, (.ireturn, 69, 0, 0, 0, [], []))]]
noncomputable abbrev zT_2 : zT := (0, zI_2, 1, 2) -- X0_sways
noncomputable def zI_3 : List (List (Nat × zE)) := [[(0, (.aload_n 0, 1, 0, 0, 0, [], [])), (1, (.getfield 15, 4, 0, 0, 0, [], [])), (4, (.tableswitch 63 2 5 #[32, 32, 63, 49], 36, 67, 0, 0, [(2, 36), (3, 36), (4, 67), (5, 53)], []))],
  [(36, (.aload_n 0, 37, 0, 0, 0, [], [])), (37, (.bipush 30, 39, 0, 30, 0, [], [])), (39, (.invokevirtual 32, 42, 0, 0, 0, [], [])), (42, (.aload_n 0, 43, 0, 0, 0, [], [])), (43, (.iload_n 1, 44, 0, 0, 0, [], [])), (44, (.invokevirtual 40, 47, 0, 0, 0, [], [])), (47, (.aload_n 0, 48, 0, 0, 0, [], [])), (48, (.getfield 22, 51, 0, 0, 0, [], [])), (51, (.isub, 52, 0, 0, 0, [], [])), (52, (.ireturn, 53, 0, 0, 0, [], [])), (53, (.aload_n 0, 54, 0, 0, 0, [], [])), (54, (.bipush 60, 56, 0, 60, 0, [], [])), (56, (.invokevirtual 32, 59, 0, 0, 0, [], [])), (59, (.iconst 0, 60, 0, 0, 0, [], [])), (60, (.aload_n 0, 61, 0, 0, 0, [], [])), (61, (.iload_n 1, 62, 0, 0, 0, [], [])), (62, (.invokevirtual 40, 65, 0, 0, 0, [], []))],
  [(65, (.isub, 66, 0, 0, 0, [], [])), (66, (.ireturn, 67, 0, 0, 0, [], [])), (67, (.aload_n 0, 68, 0, 0, 0, [], [])), (68, (.iload_n 1, 69, 0, 0, 0, [], [])), (69, (.invokevirtual 40, 72, 0, 0, 0, [], [])), (72, (.ireturn, 73, 0, 0, 0, [], []))]]
noncomputable abbrev zT_3 : zT := (0, zI_3, 1, 2) -- X0_bends
noncomputable def zI_4 : List (List (Nat × zE)) := [[(0, (.aload_n 0, 1, 0, 0, 0, [], [])), (1, (.getfield 15, 4, 0, 0, 0, [], [])), (4, (.lookupswitch 55 #[(4, 28), (5, 34)], 32, 59, 0, 0, [(4, 32), (5, 38)], []))],
  [(32, (.aload_n 0, 33, 0, 0, 0, [], [])), (33, (.iload_n 1, 34, 0, 0, 0, [], [])), (34, (.invokevirtual 43, 37, 0, 0, 0, [], [])), (37, (.ireturn, 38, 0, 0, 0, [], [])), (38, (.aload_n 0, 39, 0, 0, 0, [], [])), (39, (.bipush 61, 41, 0, 61, 0, [], [])), (41, (.invokevirtual 32, 44, 0, 0, 0, [], [])), (44, (.aload_n 0, 45, 0, 0, 0, [], [])), (45, (.iload_n 1, 46, 0, 0, 0, [], [])), (46, (.invokevirtual 43, 49, 0, 0, 0, [], [])), (49, (.aload_n 0, 50, 0, 0, 0, [], [])), (50, (.aload_n 0, 51, 0, 0, 0, [], [])), (51, (.getfield 22, 54, 0, 0, 0, [], [])), (54, (.invokevirtual 46, 57, 0, 0, 0, [], [])), (57, (.iadd, 58, 0, 0, 0, [], [])), (58, (.ireturn, 59, 0, 0, 0, [], [])), (59, (.aload_n 0, 60, 0, 0, 0, [], [])), (60, (.iload_n 1, 61, 0, 0, 0, [], [])), (61, (.invokevirtual 49, 64, 0, 0, 0, [], []))],
  [(64, (.ireturn, 65, 0, 0, 0, [], []))]]
noncomputable abbrev zT_4 : zT := (0, zI_4, 1, 2) -- X0_shares
noncomputable def zI_5 : List (List (Nat × zE)) := [[(0, (.aload_n 0, 1, 0, 0, 0, [], [])), (1, (.getfield 15, 4, 0, 0, 0, [], [])), (4, (.iconst 3, 5, 0, 3, 0, [], [])), (5, (.if_icmp .eq 9, 8, 14, 0, 0, [], [])), (8, (.aload_n 0, 9, 0, 0, 0, [], [])), (9, (.iload_n 1, 10, 0, 0, 0, [], [])), (10, (.invokevirtual 52, 13, 0, 0, 0, [], [])), (13, (.ireturn, 14, 0, 0, 0, [], [])), (14, (.aload_n 0, 15, 0, 0, 0, [], [])), (15, (.bipush 51, 17, 0, 51, 0, [], [])), (17, (.invokevirtual 32, 20, 0, 0, 0, [], [])), (20, (.aload_n 0, 21, 0, 0, 0, [], [])), (21, (.iload_n 1, 22, 0, 0, 0, [], [])), (22, (.invokevirtual 52, 25, 0, 0, 0, [], [])), (25, (.aload_n 0, 26, 0, 0, 0, [], [])), (26, (.aload_n 0, 27, 0, 0, 0, [], [])), (27, (.getfield 19, 30, 0, 0, 0, [], [])), (30, (.invokevirtual 55, 33, 0, 0, 0, [], []))],
  [(33, (.iadd, 34, 0, 0, 0, [], [])), (34, (.ireturn, 35, 0, 0, 0, [], []))]]
noncomputable abbrev zT_5 : zT := (0, zI_5, 1, 2) -- X0_tells
noncomputable def zI_6 : List (List (Nat × zE)) := [[(0, (.aload_n 0, 1, 0, 0, 0, [], [])), (1, (.bipush 10, 3, 0, 10, 0, [], [])), (3, (.invokevirtual 32, 6, 0, 0, 0, [], [])), (6, (.iload_n 1, 7, 0, 0, 0, [], [])), (7, (.aload_n 0, 8, 0, 0, 0, [], [])), (8, (.getfield 19, 11, 0, 0, 0, [], [])), (11, (.iadd, 12, 0, 0, 0, [], [])), (12, (.ireturn, 13, 0, 0, 0, [], []))]]
noncomputable abbrev zT_6 : zT := (0, zI_6, 1, 2) -- X0_plainSways
noncomputable def zI_7 : List (List (Nat × zE)) := [[(0, (.aload_n 0, 1, 0, 0, 0, [], [])), (1, (.bipush 11, 3, 0, 11, 0, [], [])), (3, (.invokevirtual 32, 6, 0, 0, 0, [], [])), (6, (.aload_n 0, 7, 0, 0, 0, [], [])), (7, (.iload_n 1, 8, 0, 0, 0, [], [])), (8, (.invokevirtual 46, 11, 0, 0, 0, [], [])), (11, (.iconst 2, 12, 0, 2, 0, [], [])), (12, (.imul, 13, 0, 0, 0, [], [])), (13, (.ireturn, 14, 0, 0, 0, [], []))]]
noncomputable abbrev zT_7 : zT := (0, zI_7, 1, 2) -- X0_plainBends
noncomputable def zI_8 : List (List (Nat × zE)) := [[(0, (.aload_n 0, 1, 0, 0, 0, [], [])), (1, (.bipush 40, 3, 0, 40, 0, [], [])), (3, (.invokevirtual 32, 6, 0, 0, 0, [], [])), (6, (.aload_n 0, 7, 0, 0, 0, [], [])), (7, (.iload_n 1, 8, 0, 0, 0, [], [])), (8, (.iconst 1, 9, 0, 1, 0, [], [])), (9, (.iadd, 10, 0, 0, 0, [], [])), (10, (.invokevirtual 49, 13, 0, 0, 0, [], [])), (13, (.ireturn, 14, 0, 0, 0, [], []))]]
noncomputable abbrev zT_8 : zT := (0, zI_8, 1, 2) -- X0_proppedShares
noncomputable def zI_9 : List (List (Nat × zE)) := [[(0, (.aload_n 0, 1, 0, 0, 0, [], [])), (1, (.bipush 12, 3, 0, 12, 0, [], [])), (3, (.invokevirtual 32, 6, 0, 0, 0, [], [])), (6, (.aload_n 0, 7, 0, 0, 0, [], [])), (7, (.getfield 22, 10, 0, 0, 0, [], [])), (10, (.aload_n 0, 11, 0, 0, 0, [], [])), (11, (.getfield 19, 14, 0, 0, 0, [], [])), (14, (.if_icmp .ne 10, 17, 24, 0, 0, [], [])), (17, (.aload_n 0, 18, 0, 0, 0, [], [])), (18, (.iconst 1, 19, 0, 1, 0, [], [])), (19, (.putfield 25, 22, 0, 0, 0, [], [])), (22, (.iconst 0, 23, 0, 0, 0, [], [])), (23, (.ireturn, 24, 0, 0, 0, [], [])), (24, (.iload_n 1, 25, 0, 0, 0, [], [])), (25, (.aload_n 0, 26, 0, 0, 0, [], [])), (26, (.getfield 22, 29, 0, 0, 0, [], [])), (29, (.aload_n 0, 30, 0, 0, 0, [], [])), (30, (.getfield 19, 33, 0, 0, 0, [], []))],
  [(33, (.isub, 34, 0, 0, 0, [], [])), (34, (.idiv, 35, 0, 0, 0, [], [])), (35, (.ireturn, 36, 0, 0, 0, [], []))]]
noncomputable abbrev zT_9 : zT := (0, zI_9, 1, 2) -- X0_plainShares
noncomputable def zI_10 : List (List (Nat × zE)) := [[(0, (.aload_n 0, 1, 0, 0, 0, [], [])), (1, (.bipush 13, 3, 0, 13, 0, [], [])), (3, (.invokevirtual 32, 6, 0, 0, 0, [], [])), (6, (.aload_n 0, 7, 0, 0, 0, [], [])), (7, (.iload_n 1, 8, 0, 0, 0, [], [])), (8, (.invokevirtual 58, 11, 0, 0, 0, [], [])), (11, (.aload_n 0, 12, 0, 0, 0, [], [])), (12, (.getfield 22, 15, 0, 0, 0, [], [])), (15, (.ixor, 16, 0, 0, 0, [], [])), (16, (.ireturn, 17, 0, 0, 0, [], []))]]
noncomputable abbrev zT_10 : zT := (0, zI_10, 1, 2) -- X0_plainTells
noncomputable def zI_11 : List (List (Nat × zE)) := [[(0, (.aload_n 0, 1, 0, 0, 0, [], [])), (1, (.aload_n 1, 2, 0, 0, 0, [], [])), (2, (.getfield 34, 5, 0, 0, 0, [], [])), (5, (.putfield 34, 8, 0, 0, 0, [], [])), (8, (.aload_n 1, 9, 0, 0, 0, [], [])), (9, (.getfield 9, 12, 0, 0, 0, [], [])), (12, (.aload_n 0, 13, 0, 0, 0, [], [])), (13, (.getfield 9, 16, 0, 0, 0, [], [])), (16, (.invokestatic 38, 19, 0, 0, 0, [], [])), (19, (.aload_n 1, 20, 0, 0, 0, [], [])), (20, (.getfield 15, 23, 0, 0, 0, [], [])), (23, (.aload_n 0, 24, 0, 0, 0, [], [])), (24, (.getfield 15, 27, 0, 0, 0, [], [])), (27, (.invokestatic 38, 30, 0, 0, 0, [], [])), (30, (.aload_n 1, 31, 0, 0, 0, [], [])), (31, (.getfield 18, 34, 0, 0, 0, [], []))],
  [(34, (.aload_n 0, 35, 0, 0, 0, [], [])), (35, (.getfield 18, 38, 0, 0, 0, [], [])), (38, (.invokestatic 38, 41, 0, 0, 0, [], [])), (41, (.aload_n 1, 42, 0, 0, 0, [], [])), (42, (.getfield 21, 45, 0, 0, 0, [], [])), (45, (.aload_n 0, 46, 0, 0, 0, [], [])), (46, (.getfield 21, 49, 0, 0, 0, [], [])), (49, (.invokestatic 38, 52, 0, 0, 0, [], [])), (52, (.aload_n 1, 53, 0, 0, 0, [], [])), (53, (.getfield 24, 56, 0, 0, 0, [], [])), (56, (.aload_n 0, 57, 0, 0, 0, [], [])), (57, (.getfield 24, 60, 0, 0, 0, [], [])), (60, (.invokestatic 38, 63, 0, 0, 0, [], [])), (63, (.aload_n 0, 64, 0, 0, 0, [], []))],
  [(64, (.aload_n 1, 65, 0, 0, 0, [], [])), (65, (.getfield 42, 68, 0, 0, 0, [], [])), (68, (.putfield 42, 71, 0, 0, 0, [], [])), (71, (.aload_n 0, 72, 0, 0, 0, [], [])), (72, (.aload_n 1, 73, 0, 0, 0, [], [])), (73, (.getfield 45, 76, 0, 0, 0, [], [])), (76, (.putfield 45, 79, 0, 0, 0, [], [])), (79, (.aload_n 0, 80, 0, 0, 0, [], [])), (80, (.aload_n 1, 81, 0, 0, 0, [], [])), (81, (.getfield 48, 84, 0, 0, 0, [], [])), (84, (.putfield 48, 87, 0, 0, 0, [], [])), (87, (.aload_n 0, 88, 0, 0, 0, [], [])), (88, (.getfield 30, 91, 0, 0, 0, [], [])), (91, (.aload_n 1, 92, 0, 0, 0, [], [])), (92, (.getfield 30, 95, 0, 0, 0, [], [])), (95, (.invokevirtual 51, 98, 0, 0, 0, [], []))],
  [(98, (.return_, 99, 0, 0, 0, [], []))]]
noncomputable abbrev zT_11 : zT := (1, zI_11, 0, 2) -- X1_copyFrom
noncomputable def zI_12 : List (List (Nat × zE)) := [[(0, (.aload_n 0, 1, 0, 0, 0, [], [])), (1, (.getfield 34, 4, 0, 0, 0, [], [])), (4, (.istore 5, 6, 0, 0, 0, [], [])), (6, (.aload_n 0, 7, 0, 0, 0, [], [])), (7, (.getfield 9, 10, 0, 0, 0, [], [])), (10, (.iload 5, 12, 0, 0, 0, [], [])), (12, (.iload_n 1, 13, 0, 0, 0, [], [])), (13, (.iastore, 14, 0, 0, 0, [], [])), (14, (.aload_n 0, 15, 0, 0, 0, [], [])), (15, (.getfield 15, 18, 0, 0, 0, [], [])), (18, (.iload 5, 20, 0, 0, 0, [], [])), (20, (.iload_n 2, 21, 0, 0, 0, [], [])), (21, (.iastore, 22, 0, 0, 0, [], [])), (22, (.aload_n 0, 23, 0, 0, 0, [], [])), (23, (.getfield 18, 26, 0, 0, 0, [], [])), (26, (.iload 5, 28, 0, 0, 0, [], [])), (28, (.iload_n 3, 29, 0, 0, 0, [], [])), (29, (.iastore, 30, 0, 0, 0, [], [])), (30, (.aload_n 0, 31, 0, 0, 0, [], [])), (31, (.getfield 21, 34, 0, 0, 0, [], []))],
  [(34, (.iload 5, 36, 0, 0, 0, [], [])), (36, (.iload 4, 38, 0, 0, 0, [], [])), (38, (.iastore, 39, 0, 0, 0, [], [])), (39, (.aload_n 0, 40, 0, 0, 0, [], [])), (40, (.getfield 24, 43, 0, 0, 0, [], [])), (43, (.iload 5, 45, 0, 0, 0, [], [])), (45, (.iconst 1, 46, 0, 1, 0, [], [])), (46, (.iload 5, 48, 0, 0, 0, [], [])), (48, (.ishl, 49, 0, 0, 0, [], [])), (49, (.aload_n 0, 50, 0, 0, 0, [], [])), (50, (.iload_n 2, 51, 0, 0, 0, [], [])), (51, (.invokevirtual 55, 54, 0, 0, 0, [], [])), (54, (.ifCond .eq 12, 57, 66, 0, 0, [], [])), (57, (.aload_n 0, 58, 0, 0, 0, [], [])), (58, (.getfield 24, 61, 0, 0, 0, [], [])), (61, (.iload_n 2, 62, 0, 0, 0, [], [])), (62, (.iaload, 63, 0, 0, 0, [], [])), (63, (.goto 4, 66, 67, 0, 0, [], []))],
  [(66, (.iconst 0, 67, 0, 0, 0, [], [])), (67, (.ior, 68, 0, 0, 0, [], [])), (68, (.iastore, 69, 0, 0, 0, [], [])), (69, (.aload_n 0, 70, 0, 0, 0, [], [])), (70, (.dup, 71, 0, 0, 0, [], [])), (71, (.getfield 34, 74, 0, 0, 0, [], [])), (74, (.iconst 1, 75, 0, 1, 0, [], [])), (75, (.iadd, 76, 0, 0, 0, [], [])), (76, (.putfield 34, 79, 0, 0, 0, [], [])), (79, (.iload 5, 81, 0, 0, 0, [], [])), (81, (.ireturn, 82, 0, 0, 0, [], []))]]
noncomputable abbrev zT_12 : zT := (1, zI_12, 1, 6) -- X1_grow
noncomputable def zI_13 : List (List (Nat × zE)) := [[(0, (.iload_n 1, 1, 0, 0, 0, [], [])), (1, (.ifCond .lt 15, 4, 16, 0, 0, [], [])), (4, (.iload_n 1, 5, 0, 0, 0, [], [])), (5, (.aload_n 0, 6, 0, 0, 0, [], [])), (6, (.getfield 34, 9, 0, 0, 0, [], [])), (9, (.if_icmp .ge 7, 12, 16, 0, 0, [], [])), (12, (.iconst 1, 13, 0, 1, 0, [], [])), (13, (.goto 4, 16, 17, 0, 0, [], [])), (16, (.iconst 0, 17, 0, 0, 0, [], [])), (17, (.ireturn, 18, 0, 0, 0, [], []))]]
noncomputable abbrev zT_13 : zT := (1, zI_13, 3, 2) -- X1_isThere
noncomputable def zI_14 : List (List (Nat × zE)) := [[(0, (.aload_n 0, 1, 0, 0, 0, [], [])), (1, (.iload_n 1, 2, 0, 0, 0, [], [])), (2, (.invokevirtual 55, 5, 0, 0, 0, [], [])), (5, (.ifCond .eq 18, 8, 23, 0, 0, [], [])), (8, (.aload_n 0, 9, 0, 0, 0, [], [])), (9, (.getfield 42, 12, 0, 0, 0, [], [])), (12, (.iload_n 1, 13, 0, 0, 0, [], [])), (13, (.invokestatic 59, 16, 0, 0, 0, [], [])), (16, (.ifCond .ne 7, 19, 23, 0, 0, [], [])), (19, (.iconst 1, 20, 0, 1, 0, [], [])), (20, (.goto 4, 23, 24, 0, 0, [], [])), (23, (.iconst 0, 24, 0, 0, 0, [], [])), (24, (.ireturn, 25, 0, 0, 0, [], []))]]
noncomputable abbrev zT_14 : zT := (1, zI_14, 3, 2) -- X1_isWhole
noncomputable def zI_15 : List (List (Nat × zE)) := [[(0, (.aload_n 0, 1, 0, 0, 0, [], [])), (1, (.iload_n 1, 2, 0, 0, 0, [], [])), (2, (.invokevirtual 55, 5, 0, 0, 0, [], [])), (5, (.ifCond .eq 20, 8, 25, 0, 0, [], [])), (8, (.aload_n 0, 9, 0, 0, 0, [], [])), (9, (.getfield 24, 12, 0, 0, 0, [], [])), (12, (.iload_n 1, 13, 0, 0, 0, [], [])), (13, (.iaload, 14, 0, 0, 0, [], [])), (14, (.iload_n 2, 15, 0, 0, 0, [], [])), (15, (.invokestatic 59, 18, 0, 0, 0, [], [])), (18, (.ifCond .eq 7, 21, 25, 0, 0, [], [])), (21, (.iconst 1, 22, 0, 1, 0, [], [])), (22, (.goto 4, 25, 26, 0, 0, [], [])), (25, (.iconst 0, 26, 0, 0, 0, [], [])), (26, (.ireturn, 27, 0, 0, 0, [], []))]]
noncomputable abbrev zT_15 : zT := (1, zI_15, 3, 3) -- X1_isAbove
noncomputable def zI_16 : List (List (Nat × zE)) := [[(0, (.aload_n 0, 1, 0, 0, 0, [], [])), (1, (.getfield 30, 4, 0, 0, 0, [], [])), (4, (.aload_n 0, 5, 0, 0, 0, [], [])), (5, (.getfield 45, 8, 0, 0, 0, [], [])), (8, (.aload_n 0, 9, 0, 0, 0, [], [])), (9, (.getfield 48, 12, 0, 0, 0, [], [])), (12, (.aload_n 0, 13, 0, 0, 0, [], [])), (13, (.getfield 18, 16, 0, 0, 0, [], [])), (16, (.iload_n 1, 17, 0, 0, 0, [], [])), (17, (.iaload, 18, 0, 0, 0, [], [])), (18, (.aload_n 0, 19, 0, 0, 0, [], [])), (19, (.getfield 21, 22, 0, 0, 0, [], [])), (22, (.iload_n 1, 23, 0, 0, 0, [], [])), (23, (.iaload, 24, 0, 0, 0, [], [])), (24, (.iload_n 1, 25, 0, 0, 0, [], [])), (25, (.invokevirtual 63, 28, 0, 0, 0, [], [])), (28, (.aload_n 0, 29, 0, 0, 0, [], [])), (29, (.getfield 30, 32, 0, 0, 0, [], []))],
  [(32, (.aload_n 0, 33, 0, 0, 0, [], [])), (33, (.getfield 9, 36, 0, 0, 0, [], [])), (36, (.iload_n 1, 37, 0, 0, 0, [], [])), (37, (.iaload, 38, 0, 0, 0, [], [])), (38, (.invokevirtual 67, 41, 0, 0, 0, [], [])), (41, (.istore_n 2, 42, 0, 0, 0, [], [])), (42, (.aload_n 0, 43, 0, 0, 0, [], [])), (43, (.getfield 9, 46, 0, 0, 0, [], [])), (46, (.iload_n 1, 47, 0, 0, 0, [], [])), (47, (.iaload, 48, 0, 0, 0, [], [])), (48, (.tableswitch 66 1 4 #[32, 42, 46, 61], 80, 114, 0, 0, [(1, 80), (2, 90), (3, 94), (4, 109)], []))],
  [(80, (.iload_n 2, 81, 0, 0, 0, [], [])), (81, (.bipush 10, 83, 0, 10, 0, [], [])), (83, (.aload_n 0, 84, 0, 0, 0, [], [])), (84, (.getfield 45, 87, 0, 0, 0, [], [])), (87, (.imul, 88, 0, 0, 0, [], [])), (88, (.iadd, 89, 0, 0, 0, [], [])), (89, (.ireturn, 90, 0, 0, 0, [], [])), (90, (.iload_n 2, 91, 0, 0, 0, [], [])), (91, (.iconst 2, 92, 0, 2, 0, [], [])), (92, (.idiv, 93, 0, 0, 0, [], [])), (93, (.ireturn, 94, 0, 0, 0, [], [])), (94, (.iconst 0, 95, 0, 0, 0, [], [])), (95, (.iload_n 2, 96, 0, 0, 0, [], []))],
  [(96, (.iconst 2, 97, 0, 2, 0, [], [])), (97, (.idiv, 98, 0, 0, 0, [], [])), (98, (.aload_n 0, 99, 0, 0, 0, [], [])), (99, (.getfield 18, 102, 0, 0, 0, [], [])), (102, (.iload_n 1, 103, 0, 0, 0, [], [])), (103, (.iaload, 104, 0, 0, 0, [], [])), (104, (.isub, 105, 0, 0, 0, [], [])), (105, (.invokestatic 71, 108, 0, 0, 0, [], [])), (108, (.ireturn, 109, 0, 0, 0, [], [])), (109, (.iload_n 2, 110, 0, 0, 0, [], [])), (110, (.bipush 50, 112, 0, 50, 0, [], [])), (112, (.iadd, 113, 0, 0, 0, [], [])), (113, (.ireturn, 114, 0, 0, 0, [], [])), (114, (.iconst 2, 115, 0, 2, 0, [], [])), (115, (.iload_n 2, 116, 0, 0, 0, [], [])), (116, (.bipush 50, 118, 0, 50, 0, [], [])), (118, (.iadd, 119, 0, 0, 0, [], [])), (119, (.imul, 120, 0, 0, 0, [], [])), (120, (.ireturn, 121, 0, 0, 0, [], []))]]
noncomputable abbrev zT_16 : zT := (1, zI_16, 1, 3) -- X1_holdsNow
noncomputable def zI_17 : List (List (Nat × zE)) := [[(0, (.aload_n 0, 1, 0, 0, 0, [], [])), (1, (.getfield 9, 4, 0, 0, 0, [], [])), (4, (.iload_n 1, 5, 0, 0, 0, [], [])), (5, (.iload_n 2, 6, 0, 0, 0, [], [])), (6, (.iastore, 7, 0, 0, 0, [], [])), (7, (.aload_n 0, 8, 0, 0, 0, [], [])), (8, (.getfield 15, 11, 0, 0, 0, [], [])), (11, (.iload_n 1, 12, 0, 0, 0, [], [])), (12, (.iload_n 3, 13, 0, 0, 0, [], [])), (13, (.iastore, 14, 0, 0, 0, [], [])), (14, (.iconst 0, 15, 0, 0, 0, [], [])), (15, (.istore 4, 17, 0, 0, 0, [], [])), (17, (.iload 4, 19, 0, 0, 0, [], [true, true, false, false, true])), (19, (.bipush 40, 21, 0, 40, 0, [], [])), (21, (.if_icmp .ge 19, 24, 40, 0, 0, [], [])), (24, (.aload_n 0, 25, 0, 0, 0, [], [])), (25, (.getfield 20, 28, 0, 0, 0, [], [])), (28, (.iload_n 1, 29, 0, 0, 0, [], [])), (29, (.aaload, 30, 0, 0, 0, [], [])), (30, (.iload 4, 32, 0, 0, 0, [], []))],
  [(32, (.lconst 0, 33, 0, 0, 0, [], [])), (33, (.lastore, 34, 0, 0, 0, [], [])), (34, (.iinc 4 1, 37, 0, 1, 0, [], [])), (37, (.goto (-20), 40, 17, 0, 0, [], [])), (40, (.return_, 41, 0, 0, 0, [], []))]]
noncomputable abbrev zT_17 : zT := (2, zI_17, 0, 5) -- X2_lay
noncomputable def zI_18 : List (List (Nat × zE)) := [[(0, (.aload_n 0, 1, 0, 0, 0, [], [])), (1, (.getfield 9, 4, 0, 0, 0, [], [])), (4, (.iload_n 1, 5, 0, 0, 0, [], [])), (5, (.iaload, 6, 0, 0, 0, [], [])), (6, (.iconst (-1), 7, 0, (-1), 0, [], [])), (7, (.if_icmp .ne 6, 10, 13, 0, 0, [], [])), (10, (.bipush (-11), 12, 0, (-11), 0, [], [])), (12, (.ireturn, 13, 0, 0, 0, [], [])), (13, (.aload_n 0, 14, 0, 0, 0, [], [])), (14, (.getfield 9, 17, 0, 0, 0, [], [])), (17, (.iload_n 1, 18, 0, 0, 0, [], [])), (18, (.iaload, 19, 0, 0, 0, [], [])), (19, (.iload_n 2, 20, 0, 0, 0, [], [])), (20, (.if_icmp .ne 7, 23, 27, 0, 0, [], [])), (23, (.iconst 0, 24, 0, 0, 0, [], [])), (24, (.goto 5, 27, 29, 0, 0, [], [])), (27, (.bipush (-13), 29, 0, (-13), 0, [], [])), (29, (.ireturn, 30, 0, 0, 0, [], []))]]
noncomputable abbrev zT_18 : zT := (2, zI_18, 1, 3) -- X2_refusalOf
noncomputable def zI_19 : List (List (Nat × zE)) := [[(0, (.iload_n 2, 1, 0, 0, 0, [], [])), (1, (.ifCond .lt 17, 4, 18, 0, 0, [], [])), (4, (.iload_n 2, 5, 0, 0, 0, [], [])), (5, (.aload_n 0, 6, 0, 0, 0, [], [])), (6, (.getfield 15, 9, 0, 0, 0, [], [])), (9, (.iload_n 1, 10, 0, 0, 0, [], [])), (10, (.iaload, 11, 0, 0, 0, [], [])), (11, (.if_icmp .ge 7, 14, 18, 0, 0, [], [])), (14, (.iconst 1, 15, 0, 1, 0, [], [])), (15, (.goto 4, 18, 19, 0, 0, [], [])), (18, (.iconst 0, 19, 0, 0, 0, [], [])), (19, (.ireturn, 20, 0, 0, 0, [], []))]]
noncomputable abbrev zT_19 : zT := (2, zI_19, 3, 3) -- X2_hasItem
noncomputable def zI_20 : List (List (Nat × zE)) := [[(0, (.aload_n 0, 1, 0, 0, 0, [], [])), (1, (.getfield 23, 4, 0, 0, 0, [], [])), (4, (.iload_n 1, 5, 0, 0, 0, [], [])), (5, (.iconst 1, 6, 0, 1, 0, [], [])), (6, (.iastore, 7, 0, 0, 0, [], [])), (7, (.aload_n 0, 8, 0, 0, 0, [], [])), (8, (.getfield 26, 11, 0, 0, 0, [], [])), (11, (.iload_n 1, 12, 0, 0, 0, [], [])), (12, (.iload_n 2, 13, 0, 0, 0, [], [])), (13, (.iastore, 14, 0, 0, 0, [], [])), (14, (.return_, 15, 0, 0, 0, [], []))]]
noncomputable abbrev zT_20 : zT := (2, zI_20, 0, 3) -- X2_shelveBough
noncomputable def zI_21 : List (List (Nat × zE)) := [[(0, (.aload_n 0, 1, 0, 0, 0, [], [])), (1, (.getfield 23, 4, 0, 0, 0, [], [])), (4, (.iload_n 1, 5, 0, 0, 0, [], [])), (5, (.aload_n 0, 6, 0, 0, 0, [], [])), (6, (.getfield 9, 9, 0, 0, 0, [], [])), (9, (.iload_n 2, 10, 0, 0, 0, [], [])), (10, (.iaload, 11, 0, 0, 0, [], [])), (11, (.iconst (-1), 12, 0, (-1), 0, [], [])), (12, (.if_icmp .ne 7, 15, 19, 0, 0, [], [])), (15, (.iconst 0, 16, 0, 0, 0, [], [])), (16, (.goto 4, 19, 20, 0, 0, [], [])), (19, (.iconst 2, 20, 0, 2, 0, [], [])), (20, (.iastore, 21, 0, 0, 0, [], [true, true, true])), (21, (.aload_n 0, 22, 0, 0, 0, [], [])), (22, (.getfield 26, 25, 0, 0, 0, [], [])), (25, (.iload_n 1, 26, 0, 0, 0, [], [])), (26, (.aload_n 0, 27, 0, 0, 0, [], [])), (27, (.getfield 15, 30, 0, 0, 0, [], [])), (30, (.iload_n 2, 31, 0, 0, 0, [], [])), (31, (.iaload, 32, 0, 0, 0, [], []))],
  [(32, (.iastore, 33, 0, 0, 0, [], [])), (33, (.aload_n 0, 34, 0, 0, 0, [], [])), (34, (.getfield 29, 37, 0, 0, 0, [], [])), (37, (.iload_n 1, 38, 0, 0, 0, [], [])), (38, (.aload_n 0, 39, 0, 0, 0, [], [])), (39, (.getfield 9, 42, 0, 0, 0, [], [])), (42, (.iload_n 2, 43, 0, 0, 0, [], [])), (43, (.iaload, 44, 0, 0, 0, [], [])), (44, (.iastore, 45, 0, 0, 0, [], [])), (45, (.return_, 46, 0, 0, 0, [], []))]]
noncomputable abbrev zT_21 : zT := (2, zI_21, 0, 3) -- X2_shelveRow
noncomputable def zI_22 : List (List (Nat × zE)) := [[(0, (.aload_n 0, 1, 0, 0, 0, [], [])), (1, (.getfield 23, 4, 0, 0, 0, [], [])), (4, (.iload_n 1, 5, 0, 0, 0, [], [])), (5, (.iconst 0, 6, 0, 0, 0, [], [])), (6, (.iastore, 7, 0, 0, 0, [], [])), (7, (.return_, 8, 0, 0, 0, [], []))]]
noncomputable abbrev zT_22 : zT := (2, zI_22, 0, 2) -- X2_clear
noncomputable def zI_23 : List (List (Nat × zE)) := [[(0, (.aload_n 0, 1, 0, 0, 0, [], [])), (1, (.getfield 23, 4, 0, 0, 0, [], [])), (4, (.iload_n 1, 5, 0, 0, 0, [], [])), (5, (.iaload, 6, 0, 0, 0, [], [])), (6, (.iconst 1, 7, 0, 1, 0, [], [])), (7, (.if_icmp .ne 7, 10, 14, 0, 0, [], [])), (10, (.iconst 1, 11, 0, 1, 0, [], [])), (11, (.goto 4, 14, 15, 0, 0, [], [])), (14, (.iconst 0, 15, 0, 0, 0, [], [])), (15, (.ireturn, 16, 0, 0, 0, [], []))]]
noncomputable abbrev zT_23 : zT := (2, zI_23, 3, 2) -- X2_isBough
noncomputable def zI_24 : List (List (Nat × zE)) := [[(0, (.aload_n 0, 1, 0, 0, 0, [], [])), (1, (.getfield 23, 4, 0, 0, 0, [], [])), (4, (.iload_n 1, 5, 0, 0, 0, [], [])), (5, (.iaload, 6, 0, 0, 0, [], [])), (6, (.iconst 2, 7, 0, 2, 0, [], [])), (7, (.if_icmp .ne 7, 10, 14, 0, 0, [], [])), (10, (.iconst 1, 11, 0, 1, 0, [], [])), (11, (.goto 4, 14, 15, 0, 0, [], [])), (14, (.iconst 0, 15, 0, 0, 0, [], [])), (15, (.ireturn, 16, 0, 0, 0, [], []))]]
noncomputable abbrev zT_24 : zT := (2, zI_24, 3, 2) -- X2_isRow
noncomputable def zI_25 : List (List (Nat × zE)) := [[(0, (.aload_n 0, 1, 0, 0, 0, [], [])), (1, (.getfield 12, 4, 0, 0, 0, [], [])), (4, (.aload_n 1, 5, 0, 0, 0, [], [])), (5, (.getfield 12, 8, 0, 0, 0, [], [])), (8, (.invokevirtual 40, 11, 0, 0, 0, [], [])), (11, (.aload_n 0, 12, 0, 0, 0, [], [])), (12, (.getfield 21, 15, 0, 0, 0, [], [])), (15, (.aload_n 1, 16, 0, 0, 0, [], [])), (16, (.getfield 21, 19, 0, 0, 0, [], [])), (19, (.invokevirtual 44, 22, 0, 0, 0, [], [])), (22, (.aload_n 0, 23, 0, 0, 0, [], [])), (23, (.getfield 28, 26, 0, 0, 0, [], [])), (26, (.aload_n 1, 27, 0, 0, 0, [], [])), (27, (.getfield 28, 30, 0, 0, 0, [], [])), (30, (.invokevirtual 47, 33, 0, 0, 0, [], []))],
  [(33, (.aload_n 0, 34, 0, 0, 0, [], [])), (34, (.aload_n 1, 35, 0, 0, 0, [], [])), (35, (.getfield 32, 38, 0, 0, 0, [], [])), (38, (.putfield 32, 41, 0, 0, 0, [], [])), (41, (.return_, 42, 0, 0, 0, [], []))]]
noncomputable abbrev zT_25 : zT := (3, zI_25, 0, 2) -- X3_copyFrom
noncomputable def zI_26 : List (List (Nat × zE)) := [[(0, (.aload_n 0, 1, 0, 0, 0, [], [])), (1, (.getfield 12, 4, 0, 0, 0, [], [])), (4, (.getfield 50, 7, 0, 0, 0, [], [])), (7, (.aload_n 0, 8, 0, 0, 0, [], [])), (8, (.getfield 12, 11, 0, 0, 0, [], [])), (11, (.getfield 53, 14, 0, 0, 0, [], [])), (14, (.iload_n 1, 15, 0, 0, 0, [], [])), (15, (.iaload, 16, 0, 0, 0, [], [])), (16, (.imul, 17, 0, 0, 0, [], [])), (17, (.istore_n 2, 18, 0, 0, 0, [], [])), (18, (.iconst 0, 19, 0, 0, 0, [], [])), (19, (.istore_n 3, 20, 0, 0, 0, [], [])), (20, (.iload_n 3, 21, 0, 0, 0, [], [true, true, true, true])), (21, (.aload_n 0, 22, 0, 0, 0, [], [])), (22, (.getfield 21, 25, 0, 0, 0, [], [])), (25, (.getfield 56, 28, 0, 0, 0, [], [])), (28, (.if_icmp .ge 41, 31, 69, 0, 0, [], [])), (31, (.aload_n 0, 32, 0, 0, 0, [], []))],
  [(32, (.getfield 12, 35, 0, 0, 0, [], [])), (35, (.aload_n 0, 36, 0, 0, 0, [], [])), (36, (.getfield 21, 39, 0, 0, 0, [], [])), (39, (.getfield 59, 42, 0, 0, 0, [], [])), (42, (.iload_n 3, 43, 0, 0, 0, [], [])), (43, (.iaload, 44, 0, 0, 0, [], [])), (44, (.iload_n 1, 45, 0, 0, 0, [], [])), (45, (.invokevirtual 62, 48, 0, 0, 0, [], [])), (48, (.ifCond .eq 15, 51, 63, 0, 0, [], [])), (51, (.iload_n 2, 52, 0, 0, 0, [], [])), (52, (.aload_n 0, 53, 0, 0, 0, [], [])), (53, (.getfield 21, 56, 0, 0, 0, [], [])), (56, (.getfield 66, 59, 0, 0, 0, [], [])), (59, (.iload_n 3, 60, 0, 0, 0, [], [])), (60, (.iaload, 61, 0, 0, 0, [], [])), (61, (.iadd, 62, 0, 0, 0, [], [])), (62, (.istore_n 2, 63, 0, 0, 0, [], [])), (63, (.iinc 3 1, 66, 0, 1, 0, [], []))],
  [(66, (.goto (-46), 69, 20, 0, 0, [], [])), (69, (.iload_n 2, 70, 0, 0, 0, [], [])), (70, (.ireturn, 71, 0, 0, 0, [], []))]]
noncomputable abbrev zT_26 : zT := (3, zI_26, 1, 4) -- X3_bears
noncomputable def zI_27 : List (List (Nat × zE)) := [[(0, (.iconst 0, 1, 0, 0, 0, [], [])), (1, (.istore_n 1, 2, 0, 0, 0, [], [])), (2, (.iload_n 1, 3, 0, 0, 0, [], [true, true])), (3, (.aload_n 0, 4, 0, 0, 0, [], [])), (4, (.getfield 12, 7, 0, 0, 0, [], [])), (7, (.getfield 69, 10, 0, 0, 0, [], [])), (10, (.if_icmp .ge 29, 13, 39, 0, 0, [], [])), (13, (.aload_n 0, 14, 0, 0, 0, [], [])), (14, (.getfield 36, 17, 0, 0, 0, [], [])), (17, (.iload_n 1, 18, 0, 0, 0, [], [])), (18, (.aload_n 0, 19, 0, 0, 0, [], [])), (19, (.getfield 12, 22, 0, 0, 0, [], [])), (22, (.iload_n 1, 23, 0, 0, 0, [], [])), (23, (.invokevirtual 70, 26, 0, 0, 0, [], [])), (26, (.aload_n 0, 27, 0, 0, 0, [], [])), (27, (.iload_n 1, 28, 0, 0, 0, [], [])), (28, (.invokevirtual 74, 31, 0, 0, 0, [], [])), (31, (.isub, 32, 0, 0, 0, [], []))],
  [(32, (.iastore, 33, 0, 0, 0, [], [])), (33, (.iinc 1 1, 36, 0, 1, 0, [], [])), (36, (.goto (-34), 39, 2, 0, 0, [], [])), (39, (.return_, 40, 0, 0, 0, [], []))]]
noncomputable abbrev zT_27 : zT := (3, zI_27, 0, 2) -- X3_measure
noncomputable def zI_28 : List (List (Nat × zE)) := [[(0, (.iconst 0, 1, 0, 0, 0, [], [])), (1, (.istore_n 3, 2, 0, 0, 0, [], [])), (2, (.iload_n 3, 3, 0, 0, 0, [], [true, true, true, true])), (3, (.aload_n 0, 4, 0, 0, 0, [], [])), (4, (.getfield 12, 7, 0, 0, 0, [], [])), (7, (.getfield 69, 10, 0, 0, 0, [], [])), (10, (.if_icmp .ge 31, 13, 41, 0, 0, [], [])), (13, (.aload_n 0, 14, 0, 0, 0, [], [])), (14, (.getfield 12, 17, 0, 0, 0, [], [])), (17, (.iload_n 1, 18, 0, 0, 0, [], [])), (18, (.iload_n 3, 19, 0, 0, 0, [], [])), (19, (.invokevirtual 62, 22, 0, 0, 0, [], [])), (22, (.ifCond .eq 13, 25, 35, 0, 0, [], [])), (25, (.aload_n 0, 26, 0, 0, 0, [], [])), (26, (.getfield 36, 29, 0, 0, 0, [], [])), (29, (.iload_n 3, 30, 0, 0, 0, [], [])), (30, (.dup2, 31, 0, 0, 0, [], [])), (31, (.iaload, 32, 0, 0, 0, [], []))],
  [(32, (.iload_n 2, 33, 0, 0, 0, [], [])), (33, (.isub, 34, 0, 0, 0, [], [])), (34, (.iastore, 35, 0, 0, 0, [], [])), (35, (.iinc 3 1, 38, 0, 1, 0, [], [])), (38, (.goto (-36), 41, 2, 0, 0, [], [])), (41, (.return_, 42, 0, 0, 0, [], []))]]
noncomputable abbrev zT_28 : zT := (3, zI_28, 0, 4) -- X3_load
noncomputable def zI_29 : List (List (Nat × zE)) := [[(0, (.iconst 0, 1, 0, 0, 0, [], [])), (1, (.istore_n 1, 2, 0, 0, 0, [], [])), (2, (.iconst 0, 3, 0, 0, 0, [], [])), (3, (.istore_n 2, 4, 0, 0, 0, [], [])), (4, (.iload_n 2, 5, 0, 0, 0, [], [true, true, true])), (5, (.aload_n 0, 6, 0, 0, 0, [], [])), (6, (.getfield 12, 9, 0, 0, 0, [], [])), (9, (.getfield 69, 12, 0, 0, 0, [], [])), (12, (.if_icmp .ge 35, 15, 47, 0, 0, [], [])), (15, (.aload_n 0, 16, 0, 0, 0, [], [])), (16, (.getfield 36, 19, 0, 0, 0, [], [])), (19, (.iload_n 2, 20, 0, 0, 0, [], [])), (20, (.iaload, 21, 0, 0, 0, [], [])), (21, (.ifCond .ge 20, 24, 41, 0, 0, [], [])), (24, (.aload_n 0, 25, 0, 0, 0, [], [])), (25, (.getfield 12, 28, 0, 0, 0, [], [])), (28, (.iload_n 2, 29, 0, 0, 0, [], [])), (29, (.invokevirtual 77, 32, 0, 0, 0, [], []))],
  [(32, (.ifCond .eq 9, 35, 41, 0, 0, [], [])), (35, (.iload_n 1, 36, 0, 0, 0, [], [])), (36, (.iconst 1, 37, 0, 1, 0, [], [])), (37, (.iload_n 2, 38, 0, 0, 0, [], [])), (38, (.ishl, 39, 0, 0, 0, [], [])), (39, (.ior, 40, 0, 0, 0, [], [])), (40, (.istore_n 1, 41, 0, 0, 0, [], [])), (41, (.iinc 2 1, 44, 0, 1, 0, [], [])), (44, (.goto (-40), 47, 4, 0, 0, [], [])), (47, (.iload_n 1, 48, 0, 0, 0, [], [])), (48, (.ireturn, 49, 0, 0, 0, [], []))]]
noncomputable abbrev zT_29 : zT := (3, zI_29, 1, 3) -- X3_cracking
noncomputable def zI_30 : List (List (Nat × zE)) := [[(0, (.aload_n 0, 1, 0, 0, 0, [], [])), (1, (.getfield 12, 4, 0, 0, 0, [], [])), (4, (.iload_n 1, 5, 0, 0, 0, [], [])), (5, (.invokevirtual 77, 8, 0, 0, 0, [], [])), (8, (.ifCond .ne 5, 11, 13, 0, 0, [], [])), (11, (.iconst 2, 12, 0, 2, 0, [], [])), (12, (.ireturn, 13, 0, 0, 0, [], [])), (13, (.aload_n 0, 14, 0, 0, 0, [], [])), (14, (.iload_n 1, 15, 0, 0, 0, [], [])), (15, (.invokevirtual 74, 18, 0, 0, 0, [], [])), (18, (.aload_n 0, 19, 0, 0, 0, [], [])), (19, (.getfield 12, 22, 0, 0, 0, [], [])), (22, (.iload_n 1, 23, 0, 0, 0, [], [])), (23, (.invokevirtual 70, 26, 0, 0, 0, [], [])), (26, (.if_icmp .le 7, 29, 33, 0, 0, [], [])), (29, (.iconst 1, 30, 0, 1, 0, [], [])), (30, (.goto 4, 33, 34, 0, 0, [], []))],
  [(33, (.iconst 0, 34, 0, 0, 0, [], [])), (34, (.ireturn, 35, 0, 0, 0, [], []))]]
noncomputable abbrev zT_30 : zT := (3, zI_30, 1, 2) -- X3_stateOf
noncomputable def zI_31 : List (List (Nat × zE)) := [[(0, (.bipush (-9), 2, 0, (-9), 0, [], [])), (2, (.istore_n 1, 3, 0, 0, 0, [], [])), (3, (.iconst 0, 4, 0, 0, 0, [], [])), (4, (.istore_n 2, 5, 0, 0, 0, [], [])), (5, (.iload_n 2, 6, 0, 0, 0, [], [true, true, true])), (6, (.aload_n 0, 7, 0, 0, 0, [], [])), (7, (.getfield 12, 10, 0, 0, 0, [], [])), (10, (.getfield 69, 13, 0, 0, 0, [], [])), (13, (.if_icmp .ge 43, 16, 56, 0, 0, [], [])), (16, (.aload_n 0, 17, 0, 0, 0, [], [])), (17, (.getfield 12, 20, 0, 0, 0, [], [])), (20, (.iload_n 2, 21, 0, 0, 0, [], [])), (21, (.invokevirtual 77, 24, 0, 0, 0, [], [])), (24, (.ifCond .eq 26, 27, 50, 0, 0, [], [])), (27, (.iload_n 1, 28, 0, 0, 0, [], [])), (28, (.bipush (-9), 30, 0, (-9), 0, [], [])), (30, (.if_icmp .eq 18, 33, 48, 0, 0, [], []))],
  [(33, (.aload_n 0, 34, 0, 0, 0, [], [])), (34, (.getfield 36, 37, 0, 0, 0, [], [])), (37, (.iload_n 2, 38, 0, 0, 0, [], [])), (38, (.iaload, 39, 0, 0, 0, [], [])), (39, (.aload_n 0, 40, 0, 0, 0, [], [])), (40, (.getfield 36, 43, 0, 0, 0, [], [])), (43, (.iload_n 1, 44, 0, 0, 0, [], [])), (44, (.iaload, 45, 0, 0, 0, [], [])), (45, (.if_icmp .ge 5, 48, 50, 0, 0, [], [])), (48, (.iload_n 2, 49, 0, 0, 0, [], [])), (49, (.istore_n 1, 50, 0, 0, 0, [], [])), (50, (.iinc 2 1, 53, 0, 1, 0, [], [])), (53, (.goto (-48), 56, 5, 0, 0, [], [])), (56, (.iload_n 1, 57, 0, 0, 0, [], [])), (57, (.ireturn, 58, 0, 0, 0, [], []))]]
noncomputable abbrev zT_31 : zT := (3, zI_31, 1, 3) -- X3_leastSpare
noncomputable def zI_32 : List (List (Nat × zE)) := [[(0, (.aload_n 0, 1, 0, 0, 0, [], [])), (1, (.getfield 36, 4, 0, 0, 0, [], [])), (4, (.iload_n 1, 5, 0, 0, 0, [], [])), (5, (.iaload, 6, 0, 0, 0, [], [])), (6, (.istore_n 2, 7, 0, 0, 0, [], [])), (7, (.iconst 0, 8, 0, 0, 0, [], [])), (8, (.istore_n 3, 9, 0, 0, 0, [], [])), (9, (.iload_n 3, 10, 0, 0, 0, [], [true, true, true, true])), (10, (.aload_n 0, 11, 0, 0, 0, [], [])), (11, (.getfield 12, 14, 0, 0, 0, [], [])), (14, (.getfield 69, 17, 0, 0, 0, [], [])), (17, (.if_icmp .ge 32, 20, 49, 0, 0, [], [])), (20, (.aload_n 0, 21, 0, 0, 0, [], [])), (21, (.getfield 12, 24, 0, 0, 0, [], [])), (24, (.iload_n 1, 25, 0, 0, 0, [], [])), (25, (.iload_n 3, 26, 0, 0, 0, [], [])), (26, (.invokevirtual 62, 29, 0, 0, 0, [], [])), (29, (.ifCond .eq 14, 32, 43, 0, 0, [], []))],
  [(32, (.iload_n 2, 33, 0, 0, 0, [], [])), (33, (.aload_n 0, 34, 0, 0, 0, [], [])), (34, (.getfield 36, 37, 0, 0, 0, [], [])), (37, (.iload_n 3, 38, 0, 0, 0, [], [])), (38, (.iaload, 39, 0, 0, 0, [], [])), (39, (.invokestatic 81, 42, 0, 0, 0, [], [])), (42, (.istore_n 2, 43, 0, 0, 0, [], [])), (43, (.iinc 3 1, 46, 0, 1, 0, [], [])), (46, (.goto (-37), 49, 9, 0, 0, [], [])), (49, (.iconst 0, 50, 0, 0, 0, [], [])), (50, (.iload_n 2, 51, 0, 0, 0, [], [])), (51, (.invokestatic 87, 54, 0, 0, 0, [], [])), (54, (.ireturn, 55, 0, 0, 0, [], []))]]
noncomputable abbrev zT_32 : zT := (3, zI_32, 1, 4) -- X3_roomOn
noncomputable def zI_33 : List (List (Nat × zE)) := [[(0, (.aload_n 0, 1, 0, 0, 0, [], [])), (1, (.invokevirtual 90, 4, 0, 0, 0, [], [])), (4, (.iconst 0, 5, 0, 0, 0, [], [])), (5, (.istore_n 1, 6, 0, 0, 0, [], [])), (6, (.iconst 0, 7, 0, 0, 0, [], [])), (7, (.istore_n 2, 8, 0, 0, 0, [], [])), (8, (.iload_n 2, 9, 0, 0, 0, [], [true, true, true, false])), (9, (.bipush 9, 11, 0, 9, 0, [], [])), (11, (.if_icmp .ge 39, 14, 50, 0, 0, [], [])), (14, (.aload_n 0, 15, 0, 0, 0, [], [])), (15, (.invokevirtual 93, 18, 0, 0, 0, [], [])), (18, (.istore_n 3, 19, 0, 0, 0, [], [])), (19, (.iload_n 3, 20, 0, 0, 0, [], [])), (20, (.bipush (-9), 22, 0, (-9), 0, [], [])), (22, (.if_icmp .eq 12, 25, 34, 0, 0, [], [])), (25, (.aload_n 0, 26, 0, 0, 0, [], [])), (26, (.getfield 36, 29, 0, 0, 0, [], [])), (29, (.iload_n 3, 30, 0, 0, 0, [], [])), (30, (.iaload, 31, 0, 0, 0, [], [])), (31, (.ifCond .lt 5, 34, 36, 0, 0, [], []))],
  [(34, (.iload_n 1, 35, 0, 0, 0, [], [])), (35, (.ireturn, 36, 0, 0, 0, [], [])), (36, (.iload_n 1, 37, 0, 0, 0, [], [])), (37, (.aload_n 0, 38, 0, 0, 0, [], [])), (38, (.iload_n 3, 39, 0, 0, 0, [], [])), (39, (.invokevirtual 97, 42, 0, 0, 0, [], [])), (42, (.iadd, 43, 0, 0, 0, [], [])), (43, (.istore_n 1, 44, 0, 0, 0, [], [])), (44, (.iinc 2 1, 47, 0, 1, 0, [], [])), (47, (.goto (-39), 50, 8, 0, 0, [], [])), (50, (.iload_n 1, 51, 0, 0, 0, [], [])), (51, (.ireturn, 52, 0, 0, 0, [], []))]]
noncomputable abbrev zT_33 : zT := (3, zI_33, 1, 4) -- X3_breakDown
noncomputable def zI_34 : List (List (Nat × zE)) := [[(0, (.iconst 0, 1, 0, 0, 0, [], [])), (1, (.istore_n 2, 2, 0, 0, 0, [], [])), (2, (.iload_n 2, 3, 0, 0, 0, [], [true, true, true, false, false])), (3, (.aload_n 0, 4, 0, 0, 0, [], [])), (4, (.getfield 12, 7, 0, 0, 0, [], [])), (7, (.getfield 69, 10, 0, 0, 0, [], [])), (10, (.if_icmp .ge 36, 13, 46, 0, 0, [], [])), (13, (.aload_n 0, 14, 0, 0, 0, [], [])), (14, (.getfield 12, 17, 0, 0, 0, [], [])), (17, (.iload_n 2, 18, 0, 0, 0, [], [])), (18, (.iload_n 1, 19, 0, 0, 0, [], [])), (19, (.invokevirtual 62, 22, 0, 0, 0, [], [])), (22, (.ifCond .eq 18, 25, 40, 0, 0, [], [])), (25, (.aload_n 0, 26, 0, 0, 0, [], [])), (26, (.getfield 12, 29, 0, 0, 0, [], [])), (29, (.dup, 30, 0, 0, 0, [], [])), (30, (.getfield 100, 33, 0, 0, 0, [], []))],
  [(33, (.iconst 1, 34, 0, 1, 0, [], [])), (34, (.iload_n 2, 35, 0, 0, 0, [], [])), (35, (.ishl, 36, 0, 0, 0, [], [])), (36, (.ior, 37, 0, 0, 0, [], [])), (37, (.putfield 100, 40, 0, 0, 0, [], [])), (40, (.iinc 2 1, 43, 0, 1, 0, [], [])), (43, (.goto (-41), 46, 2, 0, 0, [], [])), (46, (.iconst 0, 47, 0, 0, 0, [], [])), (47, (.istore_n 2, 48, 0, 0, 0, [], [])), (48, (.iconst 0, 49, 0, 0, 0, [], [])), (49, (.istore_n 3, 50, 0, 0, 0, [], [])), (50, (.iload_n 3, 51, 0, 0, 0, [], [true, true, true, true, false])), (51, (.aload_n 0, 52, 0, 0, 0, [], [])), (52, (.getfield 21, 55, 0, 0, 0, [], [])), (55, (.getfield 56, 58, 0, 0, 0, [], [])), (58, (.if_icmp .ge 66, 61, 124, 0, 0, [], [])), (61, (.aload_n 0, 62, 0, 0, 0, [], [])), (62, (.getfield 21, 65, 0, 0, 0, [], []))],
  [(65, (.getfield 59, 68, 0, 0, 0, [], [])), (68, (.iload_n 3, 69, 0, 0, 0, [], [])), (69, (.iaload, 70, 0, 0, 0, [], [])), (70, (.istore 4, 72, 0, 0, 0, [], [])), (72, (.aload_n 0, 73, 0, 0, 0, [], [])), (73, (.getfield 12, 76, 0, 0, 0, [], [])), (76, (.iload 4, 78, 0, 0, 0, [], [])), (78, (.iload_n 1, 79, 0, 0, 0, [], [])), (79, (.invokevirtual 62, 82, 0, 0, 0, [], [])), (82, (.ifCond .ne 6, 85, 88, 0, 0, [], [])), (85, (.goto 33, 88, 118, 0, 0, [], [])), (88, (.aload_n 0, 89, 0, 0, 0, [], [])), (89, (.iload 4, 91, 0, 0, 0, [], [])), (91, (.aload_n 0, 92, 0, 0, 0, [], [])), (92, (.getfield 21, 95, 0, 0, 0, [], [])), (95, (.getfield 66, 98, 0, 0, 0, [], []))],
  [(98, (.iload_n 3, 99, 0, 0, 0, [], [])), (99, (.iaload, 100, 0, 0, 0, [], [])), (100, (.ineg, 101, 0, 0, 0, [], [])), (101, (.invokevirtual 103, 104, 0, 0, 0, [], [])), (104, (.aload_n 0, 105, 0, 0, 0, [], [])), (105, (.getfield 21, 108, 0, 0, 0, [], [])), (108, (.getfield 59, 111, 0, 0, 0, [], [])), (111, (.iload_n 3, 112, 0, 0, 0, [], [])), (112, (.bipush (-9), 114, 0, (-9), 0, [], [])), (114, (.iastore, 115, 0, 0, 0, [], [])), (115, (.iinc 2 1, 118, 0, 1, 0, [], [])), (118, (.iinc 3 1, 121, 0, 1, 0, [], [])), (121, (.goto (-71), 124, 50, 0, 0, [], [])), (124, (.iload_n 2, 125, 0, 0, 0, [], [])), (125, (.ireturn, 126, 0, 0, 0, [], []))]]
noncomputable abbrev zT_34 : zT := (3, zI_34, 1, 5) -- X3_breakOff
noncomputable def zI_35 : List (List (Nat × zE)) := [[(0, (.aload_n 0, 1, 0, 0, 0, [], [])), (1, (.aload_n 1, 2, 0, 0, 0, [], [])), (2, (.getfield 21, 5, 0, 0, 0, [], [])), (5, (.putfield 21, 8, 0, 0, 0, [], [])), (8, (.aload_n 1, 9, 0, 0, 0, [], [])), (9, (.getfield 9, 12, 0, 0, 0, [], [])), (12, (.aload_n 0, 13, 0, 0, 0, [], [])), (13, (.getfield 9, 16, 0, 0, 0, [], [])), (16, (.invokestatic 25, 19, 0, 0, 0, [], [])), (19, (.aload_n 1, 20, 0, 0, 0, [], [])), (20, (.getfield 15, 23, 0, 0, 0, [], [])), (23, (.aload_n 0, 24, 0, 0, 0, [], [])), (24, (.getfield 15, 27, 0, 0, 0, [], [])), (27, (.invokestatic 25, 30, 0, 0, 0, [], [])), (30, (.aload_n 1, 31, 0, 0, 0, [], [])), (31, (.getfield 18, 34, 0, 0, 0, [], []))],
  [(34, (.aload_n 0, 35, 0, 0, 0, [], [])), (35, (.getfield 18, 38, 0, 0, 0, [], [])), (38, (.invokestatic 25, 41, 0, 0, 0, [], [])), (41, (.return_, 42, 0, 0, 0, [], []))]]
noncomputable abbrev zT_35 : zT := (4, zI_35, 0, 2) -- X4_copyFrom
noncomputable def zI_36 : List (List (Nat × zE)) := [[(0, (.aload_n 0, 1, 0, 0, 0, [], [])), (1, (.getfield 21, 4, 0, 0, 0, [], [])), (4, (.istore_n 3, 5, 0, 0, 0, [], [])), (5, (.aload_n 0, 6, 0, 0, 0, [], [])), (6, (.getfield 9, 9, 0, 0, 0, [], [])), (9, (.iload_n 3, 10, 0, 0, 0, [], [])), (10, (.iload_n 1, 11, 0, 0, 0, [], [])), (11, (.iastore, 12, 0, 0, 0, [], [])), (12, (.aload_n 0, 13, 0, 0, 0, [], [])), (13, (.getfield 15, 16, 0, 0, 0, [], [])), (16, (.iload_n 3, 17, 0, 0, 0, [], [])), (17, (.iload_n 2, 18, 0, 0, 0, [], [])), (18, (.iastore, 19, 0, 0, 0, [], [])), (19, (.aload_n 0, 20, 0, 0, 0, [], [])), (20, (.getfield 18, 23, 0, 0, 0, [], [])), (23, (.iload_n 3, 24, 0, 0, 0, [], [])), (24, (.bipush (-9), 26, 0, (-9), 0, [], [])), (26, (.iastore, 27, 0, 0, 0, [], [])), (27, (.aload_n 0, 28, 0, 0, 0, [], [])), (28, (.dup, 29, 0, 0, 0, [], [])), (29, (.getfield 21, 32, 0, 0, 0, [], []))],
  [(32, (.iconst 1, 33, 0, 1, 0, [], [])), (33, (.iadd, 34, 0, 0, 0, [], [])), (34, (.putfield 21, 37, 0, 0, 0, [], [])), (37, (.iload_n 3, 38, 0, 0, 0, [], [])), (38, (.ireturn, 39, 0, 0, 0, [], []))]]
noncomputable abbrev zT_36 : zT := (4, zI_36, 1, 4) -- X4_join
noncomputable def zI_37 : List (List (Nat × zE)) := [[(0, (.iload_n 1, 1, 0, 0, 0, [], [])), (1, (.ifCond .lt 15, 4, 16, 0, 0, [], [])), (4, (.iload_n 1, 5, 0, 0, 0, [], [])), (5, (.aload_n 0, 6, 0, 0, 0, [], [])), (6, (.getfield 21, 9, 0, 0, 0, [], [])), (9, (.if_icmp .ge 7, 12, 16, 0, 0, [], [])), (12, (.iconst 1, 13, 0, 1, 0, [], [])), (13, (.goto 4, 16, 17, 0, 0, [], [])), (16, (.iconst 0, 17, 0, 0, 0, [], [])), (17, (.ireturn, 18, 0, 0, 0, [], []))]]
noncomputable abbrev zT_37 : zT := (4, zI_37, 3, 2) -- X4_isThere
noncomputable def zI_38 : List (List (Nat × zE)) := [[(0, (.iconst 0, 1, 0, 0, 0, [], [])), (1, (.istore_n 2, 2, 0, 0, 0, [], [])), (2, (.iconst 0, 3, 0, 0, 0, [], [])), (3, (.istore_n 3, 4, 0, 0, 0, [], [])), (4, (.iload_n 3, 5, 0, 0, 0, [], [true, true, true, true])), (5, (.aload_n 0, 6, 0, 0, 0, [], [])), (6, (.getfield 21, 9, 0, 0, 0, [], [])), (9, (.if_icmp .ge 39, 12, 48, 0, 0, [], [])), (12, (.aload_n 0, 13, 0, 0, 0, [], [])), (13, (.getfield 15, 16, 0, 0, 0, [], [])), (16, (.iload_n 3, 17, 0, 0, 0, [], [])), (17, (.iaload, 18, 0, 0, 0, [], [])), (18, (.iload_n 1, 19, 0, 0, 0, [], [])), (19, (.if_icmp .ne 23, 22, 42, 0, 0, [], [])), (22, (.aload_n 0, 23, 0, 0, 0, [], [])), (23, (.getfield 18, 26, 0, 0, 0, [], [])), (26, (.iload_n 3, 27, 0, 0, 0, [], [])), (27, (.iaload, 28, 0, 0, 0, [], [])), (28, (.bipush (-9), 30, 0, (-9), 0, [], [])), (30, (.if_icmp .eq 12, 33, 42, 0, 0, [], []))],
  [(33, (.iload_n 2, 34, 0, 0, 0, [], [])), (34, (.aload_n 0, 35, 0, 0, 0, [], [])), (35, (.getfield 9, 38, 0, 0, 0, [], [])), (38, (.iload_n 3, 39, 0, 0, 0, [], [])), (39, (.iaload, 40, 0, 0, 0, [], [])), (40, (.iadd, 41, 0, 0, 0, [], [])), (41, (.istore_n 2, 42, 0, 0, 0, [], [])), (42, (.iinc 3 1, 45, 0, 1, 0, [], [])), (45, (.goto (-41), 48, 4, 0, 0, [], [])), (48, (.iload_n 2, 49, 0, 0, 0, [], [])), (49, (.ireturn, 50, 0, 0, 0, [], []))]]
noncomputable abbrev zT_38 : zT := (4, zI_38, 1, 4) -- X4_seatedWeight
noncomputable def zI_39 : List (List (Nat × zE)) := [[(0, (.iconst 0, 1, 0, 0, 0, [], [])), (1, (.istore_n 2, 2, 0, 0, 0, [], [])), (2, (.iload_n 2, 3, 0, 0, 0, [], [true, true, true])), (3, (.aload_n 0, 4, 0, 0, 0, [], [])), (4, (.getfield 21, 7, 0, 0, 0, [], [])), (7, (.if_icmp .ge 32, 10, 39, 0, 0, [], [])), (10, (.aload_n 0, 11, 0, 0, 0, [], [])), (11, (.getfield 15, 14, 0, 0, 0, [], [])), (14, (.iload_n 2, 15, 0, 0, 0, [], [])), (15, (.iaload, 16, 0, 0, 0, [], [])), (16, (.iload_n 1, 17, 0, 0, 0, [], [])), (17, (.if_icmp .ne 16, 20, 33, 0, 0, [], [])), (20, (.aload_n 0, 21, 0, 0, 0, [], [])), (21, (.getfield 18, 24, 0, 0, 0, [], [])), (24, (.iload_n 2, 25, 0, 0, 0, [], [])), (25, (.iaload, 26, 0, 0, 0, [], [])), (26, (.bipush (-9), 28, 0, (-9), 0, [], [])), (28, (.if_icmp .ne 5, 31, 33, 0, 0, [], [])), (31, (.iload_n 2, 32, 0, 0, 0, [], []))],
  [(32, (.ireturn, 33, 0, 0, 0, [], [])), (33, (.iinc 2 1, 36, 0, 1, 0, [], [])), (36, (.goto (-34), 39, 2, 0, 0, [], [])), (39, (.bipush (-9), 41, 0, (-9), 0, [], [])), (41, (.ireturn, 42, 0, 0, 0, [], []))]]
noncomputable abbrev zT_39 : zT := (4, zI_39, 1, 3) -- X4_firstUnseated
noncomputable def zI_40 : List (List (Nat × zE)) := [[(0, (.aload_n 0, 1, 0, 0, 0, [], [])), (1, (.aload_n 1, 2, 0, 0, 0, [], [])), (2, (.getfield 18, 5, 0, 0, 0, [], [])), (5, (.putfield 18, 8, 0, 0, 0, [], [])), (8, (.aload_n 1, 9, 0, 0, 0, [], [])), (9, (.getfield 9, 12, 0, 0, 0, [], [])), (12, (.aload_n 0, 13, 0, 0, 0, [], [])), (13, (.getfield 9, 16, 0, 0, 0, [], [])), (16, (.invokestatic 22, 19, 0, 0, 0, [], [])), (19, (.aload_n 1, 20, 0, 0, 0, [], [])), (20, (.getfield 15, 23, 0, 0, 0, [], [])), (23, (.aload_n 0, 24, 0, 0, 0, [], [])), (24, (.getfield 15, 27, 0, 0, 0, [], [])), (27, (.invokestatic 22, 30, 0, 0, 0, [], [])), (30, (.return_, 31, 0, 0, 0, [], []))]]
noncomputable abbrev zT_40 : zT := (5, zI_40, 0, 2) -- X5_copyFrom
noncomputable def zI_41 : List (List (Nat × zE)) := [[(0, (.aload_n 0, 1, 0, 0, 0, [], [])), (1, (.getfield 18, 4, 0, 0, 0, [], [])), (4, (.istore_n 3, 5, 0, 0, 0, [], [])), (5, (.aload_n 0, 6, 0, 0, 0, [], [])), (6, (.getfield 9, 9, 0, 0, 0, [], [])), (9, (.iload_n 3, 10, 0, 0, 0, [], [])), (10, (.iload_n 1, 11, 0, 0, 0, [], [])), (11, (.iastore, 12, 0, 0, 0, [], [])), (12, (.aload_n 0, 13, 0, 0, 0, [], [])), (13, (.getfield 15, 16, 0, 0, 0, [], [])), (16, (.iload_n 3, 17, 0, 0, 0, [], [])), (17, (.iload_n 2, 18, 0, 0, 0, [], [])), (18, (.iastore, 19, 0, 0, 0, [], [])), (19, (.aload_n 0, 20, 0, 0, 0, [], [])), (20, (.dup, 21, 0, 0, 0, [], [])), (21, (.getfield 18, 24, 0, 0, 0, [], [])), (24, (.iconst 1, 25, 0, 1, 0, [], [])), (25, (.iadd, 26, 0, 0, 0, [], [])), (26, (.putfield 18, 29, 0, 0, 0, [], [])), (29, (.iload_n 3, 30, 0, 0, 0, [], [])), (30, (.ireturn, 31, 0, 0, 0, [], []))]]
noncomputable abbrev zT_41 : zT := (5, zI_41, 1, 4) -- X5_note
noncomputable def zI_42 : List (List (Nat × zE)) := [[(0, (.aload_n 0, 1, 0, 0, 0, [], [])), (1, (.iconst 1, 2, 0, 1, 0, [], [])), (2, (.putfield 26, 5, 0, 0, 0, [], [])), (5, (.aload_n 0, 6, 0, 0, 0, [], [])), (6, (.sipush 200, 9, 0, 200, 0, [], [])), (9, (.putfield 29, 12, 0, 0, 0, [], [])), (12, (.iconst 0, 13, 0, 0, 0, [], [])), (13, (.istore_n 3, 14, 0, 0, 0, [], [])), (14, (.iload_n 3, 15, 0, 0, 0, [], [true, true, true, true])), (15, (.aload_n 0, 16, 0, 0, 0, [], [])), (16, (.getfield 18, 19, 0, 0, 0, [], [])), (19, (.if_icmp .ge 20, 22, 39, 0, 0, [], [])), (22, (.iload_n 3, 23, 0, 0, 0, [], [])), (23, (.iload_n 2, 24, 0, 0, 0, [], [])), (24, (.if_icmp .eq 9, 27, 33, 0, 0, [], [])), (27, (.aload_n 0, 28, 0, 0, 0, [], [])), (28, (.aload_n 1, 29, 0, 0, 0, [], [])), (29, (.iload_n 3, 30, 0, 0, 0, [], [])), (30, (.invokevirtual 32, 33, 0, 0, 0, [], []))],
  [(33, (.iinc 3 1, 36, 0, 1, 0, [], [])), (36, (.goto (-22), 39, 14, 0, 0, [], [])), (39, (.return_, 40, 0, 0, 0, [], []))]]
noncomputable abbrev zT_42 : zT := (5, zI_42, 0, 4) -- X5_fit
noncomputable def zI_43 : List (List (Nat × zE)) := [[(0, (.aload_n 1, 1, 0, 0, 0, [], [])), (1, (.getfield 36, 4, 0, 0, 0, [], [])), (4, (.aload_n 0, 5, 0, 0, 0, [], [])), (5, (.getfield 9, 8, 0, 0, 0, [], [])), (8, (.iload_n 2, 9, 0, 0, 0, [], [])), (9, (.iaload, 10, 0, 0, 0, [], [])), (10, (.invokevirtual 41, 13, 0, 0, 0, [], [])), (13, (.ifCond .ne 9, 16, 22, 0, 0, [], [])), (16, (.aload_n 0, 17, 0, 0, 0, [], [])), (17, (.iconst 0, 18, 0, 0, 0, [], [])), (18, (.putfield 29, 21, 0, 0, 0, [], [])), (21, (.return_, 22, 0, 0, 0, [], [])), (22, (.aload_n 1, 23, 0, 0, 0, [], [])), (23, (.invokevirtual 47, 26, 0, 0, 0, [], [])), (26, (.ifCond .eq 7, 29, 33, 0, 0, [], [])), (29, (.iconst 1, 30, 0, 1, 0, [], [])), (30, (.goto 15, 33, 45, 0, 0, [], []))],
  [(33, (.aload_n 1, 34, 0, 0, 0, [], [])), (34, (.aload_n 0, 35, 0, 0, 0, [], [])), (35, (.getfield 9, 38, 0, 0, 0, [], [])), (38, (.iload_n 2, 39, 0, 0, 0, [], [])), (39, (.iaload, 40, 0, 0, 0, [], [])), (40, (.invokevirtual 51, 43, 0, 0, 0, [], [])), (43, (.iconst 1, 44, 0, 1, 0, [], [])), (44, (.iadd, 45, 0, 0, 0, [], [])), (45, (.istore_n 3, 46, 0, 0, 0, [], [true, false, true, false])), (46, (.aload_n 0, 47, 0, 0, 0, [], [])), (47, (.getfield 15, 50, 0, 0, 0, [], [])), (50, (.iload_n 2, 51, 0, 0, 0, [], [])), (51, (.iaload, 52, 0, 0, 0, [], [])), (52, (.iconst 1, 53, 0, 1, 0, [], [])), (53, (.if_icmp .ne 18, 56, 71, 0, 0, [], [])), (56, (.aload_n 0, 57, 0, 0, 0, [], [])), (57, (.aload_n 0, 58, 0, 0, 0, [], [])), (58, (.getfield 26, 61, 0, 0, 0, [], [])), (61, (.iload_n 3, 62, 0, 0, 0, [], [])), (62, (.invokestatic 55, 65, 0, 0, 0, [], []))],
  [(65, (.putfield 26, 68, 0, 0, 0, [], [])), (68, (.goto 17, 71, 85, 0, 0, [], [])), (71, (.aload_n 0, 72, 0, 0, 0, [], [])), (72, (.aload_n 0, 73, 0, 0, 0, [], [])), (73, (.getfield 29, 76, 0, 0, 0, [], [])), (76, (.iload_n 3, 77, 0, 0, 0, [], [])), (77, (.iconst 1, 78, 0, 1, 0, [], [])), (78, (.isub, 79, 0, 0, 0, [], [])), (79, (.invokestatic 61, 82, 0, 0, 0, [], [])), (82, (.putfield 29, 85, 0, 0, 0, [], [])), (85, (.return_, 86, 0, 0, 0, [], []))]]
noncomputable abbrev zT_43 : zT := (5, zI_43, 0, 4) -- X5_narrow
noncomputable def zI_44 : List (List (Nat × zE)) := [[(0, (.iconst 0, 1, 0, 0, 0, [], [])), (1, (.aload_n 0, 2, 0, 0, 0, [], [])), (2, (.getfield 29, 5, 0, 0, 0, [], [])), (5, (.aload_n 0, 6, 0, 0, 0, [], [])), (6, (.getfield 26, 9, 0, 0, 0, [], [])), (9, (.isub, 10, 0, 0, 0, [], [])), (10, (.iconst 1, 11, 0, 1, 0, [], [])), (11, (.iadd, 12, 0, 0, 0, [], [])), (12, (.invokestatic 55, 15, 0, 0, 0, [], [])), (15, (.ireturn, 16, 0, 0, 0, [], []))]]
noncomputable abbrev zT_44 : zT := (5, zI_44, 1, 1) -- X5_fitting
noncomputable def zI_45 : List (List (Nat × zE)) := [[(0, (.iload_n 1, 1, 0, 0, 0, [], [])), (1, (.ifCond .lt 24, 4, 25, 0, 0, [], [])), (4, (.iload_n 1, 5, 0, 0, 0, [], [])), (5, (.aload_n 0, 6, 0, 0, 0, [], [])), (6, (.getfield 16, 9, 0, 0, 0, [], [])), (9, (.if_icmp .ge 16, 12, 25, 0, 0, [], [])), (12, (.iload_n 2, 13, 0, 0, 0, [], [])), (13, (.ifCond .lt 12, 16, 25, 0, 0, [], [])), (16, (.iload_n 2, 17, 0, 0, 0, [], [])), (17, (.iconst 3, 18, 0, 3, 0, [], [])), (18, (.if_icmp .ge 7, 21, 25, 0, 0, [], [])), (21, (.iconst 1, 22, 0, 1, 0, [], [])), (22, (.goto 4, 25, 26, 0, 0, [], [])), (25, (.iconst 0, 26, 0, 0, 0, [], [])), (26, (.ireturn, 27, 0, 0, 0, [], []))]]
noncomputable abbrev zT_45 : zT := (6, zI_45, 3, 3) -- X6_has
noncomputable def zI_46 : List (List (Nat × zE)) := [[(0, (.iload_n 2, 1, 0, 0, 0, [], [])), (1, (.istore_n 3, 2, 0, 0, 0, [], [])), (2, (.aload_n 0, 3, 0, 0, 0, [], [])), (3, (.iconst 0, 4, 0, 0, 0, [], [])), (4, (.putfield 16, 7, 0, 0, 0, [], [])), (7, (.iconst 0, 8, 0, 0, 0, [], [])), (8, (.istore 4, 10, 0, 0, 0, [], [])), (10, (.iload 4, 12, 0, 0, 0, [], [true, true, false, true, true])), (12, (.bipush 9, 14, 0, 9, 0, [], [])), (14, (.if_icmp .ge 79, 17, 93, 0, 0, [], [])), (17, (.aload_n 1, 18, 0, 0, 0, [], [])), (18, (.getfield 20, 21, 0, 0, 0, [], [])), (21, (.iload_n 3, 22, 0, 0, 0, [], [])), (22, (.invokevirtual 26, 25, 0, 0, 0, [], [])), (25, (.ifCond .eq 68, 28, 93, 0, 0, [], [])), (28, (.aload_n 0, 29, 0, 0, 0, [], [])), (29, (.getfield 11, 32, 0, 0, 0, [], []))],
  [(32, (.iload 4, 34, 0, 0, 0, [], [])), (34, (.aaload, 35, 0, 0, 0, [], [])), (35, (.iconst 0, 36, 0, 0, 0, [], [])), (36, (.iload_n 3, 37, 0, 0, 0, [], [])), (37, (.iastore, 38, 1, 0, 0, [], [])), (38, (.aload_n 0, 39, 0, 0, 0, [], [])), (39, (.getfield 11, 42, 0, 0, 0, [], [])), (42, (.iload 4, 44, 0, 0, 0, [], [])), (44, (.aaload, 45, 0, 0, 0, [], [])), (45, (.iconst 1, 46, 0, 1, 0, [], [])), (46, (.aload_n 1, 47, 0, 0, 0, [], [])), (47, (.iload_n 3, 48, 0, 0, 0, [], [])), (48, (.invokevirtual 32, 51, 0, 0, 0, [], [])), (51, (.iastore, 52, 2, 0, 0, [], [])), (52, (.aload_n 0, 53, 0, 0, 0, [], [])), (53, (.getfield 11, 56, 0, 0, 0, [], [])), (56, (.iload 4, 58, 0, 0, 0, [], [])), (58, (.aaload, 59, 0, 0, 0, [], [])), (59, (.iconst 2, 60, 0, 2, 0, [], [])), (60, (.aload_n 1, 61, 0, 0, 0, [], [])), (61, (.getfield 20, 64, 0, 0, 0, [], []))],
  [(64, (.iload_n 3, 65, 0, 0, 0, [], [])), (65, (.invokevirtual 36, 68, 0, 0, 0, [], [])), (68, (.iastore, 69, 3, 0, 0, [], [])), (69, (.aload_n 0, 70, 0, 0, 0, [], [])), (70, (.iload 4, 72, 0, 0, 0, [], [])), (72, (.iconst 1, 73, 0, 1, 0, [], [])), (73, (.iadd, 74, 0, 0, 0, [], [])), (74, (.putfield 16, 77, 0, 0, 0, [], [])), (77, (.aload_n 1, 78, 0, 0, 0, [], [])), (78, (.getfield 20, 81, 0, 0, 0, [], [])), (81, (.getfield 39, 84, 0, 0, 0, [], [])), (84, (.iload_n 3, 85, 0, 0, 0, [], [])), (85, (.iaload, 86, 0, 0, 0, [], [])), (86, (.istore_n 3, 87, 0, 0, 0, [], [])), (87, (.iinc 4 1, 90, 0, 1, 0, [], [])), (90, (.goto (-80), 93, 10, 0, 0, [], [])), (93, (.return_, 94, 0, 0, 0, [], []))]]
noncomputable abbrev zT_46 : zT := (6, zI_46, 0, 5) -- X6_tell
noncomputable def zI_47 : List (List (Nat × zE)) := [[(0, (.bipush (-9), 2, 0, (-9), 0, [], [])), (2, (.istore_n 2, 3, 0, 0, 0, [], [])), (3, (.iconst 0, 4, 0, 0, 0, [], [])), (4, (.istore_n 3, 5, 0, 0, 0, [], [])), (5, (.iload_n 3, 6, 0, 0, 0, [], [true, true, true, true, false])), (6, (.aload_n 0, 7, 0, 0, 0, [], [])), (7, (.getfield 16, 10, 0, 0, 0, [], [])), (10, (.if_icmp .ge 97, 13, 107, 0, 0, [], [])), (13, (.aload_n 0, 14, 0, 0, 0, [], [])), (14, (.getfield 11, 17, 0, 0, 0, [], [])), (17, (.iload_n 3, 18, 0, 0, 0, [], [])), (18, (.aaload, 19, 0, 0, 0, [], [])), (19, (.iconst 0, 20, 0, 0, 0, [], [])), (20, (.iaload, 21, 1, 0, 0, [], [])), (21, (.istore 4, 23, 0, 0, 0, [], [])), (23, (.aload_n 1, 24, 0, 0, 0, [], [])), (24, (.getfield 20, 27, 0, 0, 0, [], [])), (27, (.iload 4, 29, 0, 0, 0, [], [])), (29, (.invokevirtual 26, 32, 0, 0, 0, [], []))],
  [(32, (.ifCond .eq 13, 35, 45, 0, 0, [], [])), (35, (.iload_n 3, 36, 0, 0, 0, [], [])), (36, (.ifCond .le 13, 39, 49, 0, 0, [], [])), (39, (.iload 4, 41, 0, 0, 0, [], [])), (41, (.iload_n 2, 42, 0, 0, 0, [], [])), (42, (.if_icmp .eq 7, 45, 49, 0, 0, [], [])), (45, (.iload_n 3, 46, 0, 0, 0, [], [])), (46, (.iconst 1, 47, 0, 1, 0, [], [])), (47, (.iadd, 48, 0, 0, 0, [], [])), (48, (.ireturn, 49, 0, 0, 0, [], [])), (49, (.aload_n 0, 50, 0, 0, 0, [], [true, true, false, true, true])), (50, (.getfield 11, 53, 0, 0, 0, [], [])), (53, (.iload_n 3, 54, 0, 0, 0, [], [])), (54, (.aaload, 55, 0, 0, 0, [], [])), (55, (.iconst 1, 56, 0, 1, 0, [], [])), (56, (.iaload, 57, 2, 0, 0, [], [])), (57, (.aload_n 1, 58, 0, 0, 0, [], [])), (58, (.iload 4, 60, 0, 0, 0, [], [])), (60, (.invokevirtual 32, 63, 0, 0, 0, [], [])), (63, (.if_icmp .ne 23, 66, 86, 0, 0, [], []))],
  [(66, (.aload_n 0, 67, 0, 0, 0, [], [])), (67, (.getfield 11, 70, 0, 0, 0, [], [])), (70, (.iload_n 3, 71, 0, 0, 0, [], [])), (71, (.aaload, 72, 0, 0, 0, [], [])), (72, (.iconst 2, 73, 0, 2, 0, [], [])), (73, (.iaload, 74, 3, 0, 0, [], [])), (74, (.aload_n 1, 75, 0, 0, 0, [], [])), (75, (.getfield 20, 78, 0, 0, 0, [], [])), (78, (.iload 4, 80, 0, 0, 0, [], [])), (80, (.invokevirtual 36, 83, 0, 0, 0, [], [])), (83, (.if_icmp .eq 7, 86, 90, 0, 0, [], [])), (86, (.iload_n 3, 87, 0, 0, 0, [], [])), (87, (.iconst 1, 88, 0, 1, 0, [], [])), (88, (.iadd, 89, 0, 0, 0, [], [])), (89, (.ireturn, 90, 0, 0, 0, [], [])), (90, (.aload_n 1, 91, 0, 0, 0, [], [])), (91, (.getfield 20, 94, 0, 0, 0, [], [])), (94, (.getfield 39, 97, 0, 0, 0, [], []))],
  [(97, (.iload 4, 99, 0, 0, 0, [], [])), (99, (.iaload, 100, 0, 0, 0, [], [])), (100, (.istore_n 2, 101, 0, 0, 0, [], [])), (101, (.iinc 3 1, 104, 0, 1, 0, [], [])), (104, (.goto (-99), 107, 5, 0, 0, [], [])), (107, (.iload_n 2, 108, 0, 0, 0, [], [])), (108, (.bipush (-9), 110, 0, (-9), 0, [], [])), (110, (.if_icmp .ne 7, 113, 117, 0, 0, [], [])), (113, (.iconst 0, 114, 0, 0, 0, [], [])), (114, (.goto 7, 117, 121, 0, 0, [], [])), (117, (.aload_n 0, 118, 0, 0, 0, [], [])), (118, (.getfield 16, 121, 0, 0, 0, [], [])), (121, (.ireturn, 122, 0, 0, 0, [], []))]]
noncomputable abbrev zT_47 : zT := (6, zI_47, 1, 5) -- X6_firstWrong
noncomputable def zI_48 : List (List (Nat × zE)) := [[(0, (.aload_n 0, 1, 0, 0, 0, [], [])), (1, (.getfield 12, 4, 0, 0, 0, [], [])), (4, (.iconst 0, 5, 0, 0, 0, [], [])), (5, (.putfield 22, 8, 0, 0, 0, [], [])), (8, (.aload_n 0, 9, 0, 0, 0, [], [])), (9, (.iconst 0, 10, 0, 0, 0, [], [])), (10, (.putfield 26, 13, 0, 0, 0, [], [])), (13, (.aload_n 0, 14, 0, 0, 0, [], [])), (14, (.iconst 0, 15, 0, 0, 0, [], [])), (15, (.putfield 29, 18, 0, 0, 0, [], [])), (18, (.aload_n 0, 19, 0, 0, 0, [], [])), (19, (.iconst 0, 20, 0, 0, 0, [], [])), (20, (.putfield 32, 23, 0, 0, 0, [], [])), (23, (.aload_n 0, 24, 0, 0, 0, [], [])), (24, (.iconst 0, 25, 0, 0, 0, [], [])), (25, (.putfield 35, 28, 0, 0, 0, [], [])), (28, (.iconst 0, 29, 0, 0, 0, [], [])), (29, (.istore_n 2, 30, 0, 0, 0, [], [])), (30, (.iconst 0, 31, 0, 0, 0, [], [])), (31, (.istore_n 3, 32, 0, 0, 0, [], []))],
  [(32, (.iload_n 3, 33, 0, 0, 0, [], [true, true, true, true])), (33, (.aload_n 1, 34, 0, 0, 0, [], [])), (34, (.getfield 38, 37, 0, 0, 0, [], [])), (37, (.if_icmp .ge 58, 40, 95, 0, 0, [], [])), (40, (.iload_n 3, 41, 0, 0, 0, [], [])), (41, (.iload_n 2, 42, 0, 0, 0, [], [])), (42, (.if_icmp .lt 47, 45, 89, 0, 0, [], [])), (45, (.aload_n 1, 46, 0, 0, 0, [], [])), (46, (.iload_n 3, 47, 0, 0, 0, [], [])), (47, (.invokevirtual 41, 50, 0, 0, 0, [], [])), (50, (.ifCond .eq 6, 53, 56, 0, 0, [], [])), (53, (.goto 36, 56, 89, 0, 0, [], [])), (56, (.aload_n 1, 57, 0, 0, 0, [], [])), (57, (.iload_n 3, 58, 0, 0, 0, [], [])), (58, (.invokevirtual 45, 61, 0, 0, 0, [], [])), (61, (.istore_n 2, 62, 0, 0, 0, [], [])), (62, (.aload_n 0, 63, 0, 0, 0, [], [])), (63, (.getfield 12, 66, 0, 0, 0, [], []))],
  [(66, (.getfield 22, 69, 0, 0, 0, [], [])), (69, (.bipush 8, 71, 0, 8, 0, [], [])), (71, (.if_icmp .ge 16, 74, 87, 0, 0, [], [])), (74, (.aload_n 0, 75, 0, 0, 0, [], [])), (75, (.aload_n 1, 76, 0, 0, 0, [], [])), (76, (.iload_n 3, 77, 0, 0, 0, [], [])), (77, (.iload_n 2, 78, 0, 0, 0, [], [])), (78, (.invokevirtual 49, 81, 0, 0, 0, [], [])), (81, (.invokevirtual 53, 84, 0, 0, 0, [], [])), (84, (.ifCond .ne 5, 87, 89, 0, 0, [], [])), (87, (.iload_n 3, 88, 0, 0, 0, [], [])), (88, (.ireturn, 89, 0, 0, 0, [], [])), (89, (.iinc 3 1, 92, 0, 1, 0, [], [])), (92, (.goto (-60), 95, 32, 0, 0, [], [])), (95, (.aload_n 0, 96, 0, 0, 0, [], []))],
  [(96, (.getfield 26, 99, 0, 0, 0, [], [])), (99, (.ifCond .ne 8, 102, 107, 0, 0, [], [])), (102, (.bipush (-9), 104, 0, (-9), 0, [], [])), (104, (.goto 7, 107, 111, 0, 0, [], [])), (107, (.aload_n 1, 108, 0, 0, 0, [], [])), (108, (.getfield 38, 111, 0, 0, 0, [], [])), (111, (.ireturn, 112, 0, 0, 0, [], []))]]
noncomputable abbrev zT_48 : zT := (7, zI_48, 1, 4) -- X7_faultOf
noncomputable def zI_49 : List (List (Nat × zE)) := [[(0, (.aload_n 0, 1, 0, 0, 0, [], [])), (1, (.getfield 26, 4, 0, 0, 0, [], [])), (4, (.tableswitch 102 0 6 #[44, 50, 72, 78, 84, 90, 96], 48, 106, 0, 0, [(0, 48), (1, 54), (2, 76), (3, 82), (4, 88), (5, 94), (6, 100)], []))],
  [(48, (.aload_n 0, 49, 0, 0, 0, [], [])), (49, (.iload_n 1, 50, 0, 0, 0, [], [])), (50, (.invokevirtual 56, 53, 0, 0, 0, [], [])), (53, (.ireturn, 54, 0, 0, 0, [], [])), (54, (.aload_n 0, 55, 0, 0, 0, [], [])), (55, (.iload_n 1, 56, 0, 0, 0, [], [])), (56, (.invokevirtual 59, 59, 0, 0, 0, [], [])), (59, (.ifCond .ne 11, 62, 70, 0, 0, [], [])), (62, (.aload_n 0, 63, 0, 0, 0, [], [])), (63, (.iload_n 1, 64, 0, 0, 0, [], []))],
  [(64, (.invokevirtual 62, 67, 0, 0, 0, [], [])), (67, (.ifCond .eq 7, 70, 74, 0, 0, [], [])), (70, (.iconst 1, 71, 0, 1, 0, [], [])), (71, (.goto 4, 74, 75, 0, 0, [], [])), (74, (.iconst 0, 75, 0, 0, 0, [], [])), (75, (.ireturn, 76, 0, 0, 0, [], [])), (76, (.aload_n 0, 77, 0, 0, 0, [], [])), (77, (.iload_n 1, 78, 0, 0, 0, [], [])), (78, (.invokevirtual 65, 81, 0, 0, 0, [], [])), (81, (.ireturn, 82, 0, 0, 0, [], [])), (82, (.aload_n 0, 83, 0, 0, 0, [], [])), (83, (.iload_n 1, 84, 0, 0, 0, [], [])), (84, (.invokevirtual 68, 87, 0, 0, 0, [], [])), (87, (.ireturn, 88, 0, 0, 0, [], [])), (88, (.aload_n 0, 89, 0, 0, 0, [], [])), (89, (.iload_n 1, 90, 0, 0, 0, [], [])), (90, (.invokevirtual 71, 93, 0, 0, 0, [], [])), (93, (.ireturn, 94, 0, 0, 0, [], [])), (94, (.aload_n 0, 95, 0, 0, 0, [], [])), (95, (.iload_n 1, 96, 0, 0, 0, [], []))],
  [(96, (.invokevirtual 74, 99, 0, 0, 0, [], [])), (99, (.ireturn, 100, 0, 0, 0, [], [])), (100, (.aload_n 0, 101, 0, 0, 0, [], [])), (101, (.iload_n 1, 102, 0, 0, 0, [], [])), (102, (.invokevirtual 77, 105, 0, 0, 0, [], [])), (105, (.ireturn, 106, 0, 0, 0, [], [])), (106, (.aload_n 0, 107, 0, 0, 0, [], [])), (107, (.iload_n 1, 108, 0, 0, 0, [], [])), (108, (.invokevirtual 80, 111, 0, 0, 0, [], [])), (111, (.ifCond .ne 18, 114, 129, 0, 0, [], [])), (114, (.aload_n 0, 115, 0, 0, 0, [], [])), (115, (.getfield 29, 118, 0, 0, 0, [], [])), (118, (.ifCond .ne 15, 121, 133, 0, 0, [], [])), (121, (.aload_n 0, 122, 0, 0, 0, [], [])), (122, (.iload_n 1, 123, 0, 0, 0, [], [])), (123, (.invokevirtual 62, 126, 0, 0, 0, [], [])), (126, (.ifCond .eq 7, 129, 133, 0, 0, [], []))],
  [(129, (.iconst 1, 130, 0, 1, 0, [], [])), (130, (.goto 4, 133, 134, 0, 0, [], [])), (133, (.iconst 0, 134, 0, 0, 0, [], [])), (134, (.ireturn, 135, 0, 0, 0, [], []))]]
noncomputable abbrev zT_49 : zT := (7, zI_49, 3, 2) -- X7_takes
noncomputable def zI_50 : List (List (Nat × zE)) := [[(0, (.bipush (-20), 2, 0, (-20), 0, [], [])), (2, (.iload_n 1, 3, 0, 0, 0, [], [])), (3, (.isub, 4, 0, 0, 0, [], [])), (4, (.iconst 0, 5, 0, 0, 0, [], [])), (5, (.iconst 5, 6, 0, 5, 0, [], [])), (6, (.invokestatic 83, 9, 0, 0, 0, [], [])), (9, (.ifCond .ne 5, 12, 14, 0, 0, [], [])), (12, (.iconst 0, 13, 0, 0, 0, [], [])), (13, (.ireturn, 14, 0, 0, 0, [], [])), (14, (.aload_n 0, 15, 0, 0, 0, [], [])), (15, (.getfield 12, 18, 0, 0, 0, [], [])), (18, (.getfield 87, 21, 0, 0, 0, [], [])), (21, (.aload_n 0, 22, 0, 0, 0, [], [])), (22, (.getfield 12, 25, 0, 0, 0, [], [])), (25, (.getfield 22, 28, 0, 0, 0, [], [])), (28, (.bipush (-20), 30, 0, (-20), 0, [], [])), (30, (.iload_n 1, 31, 0, 0, 0, [], [])), (31, (.isub, 32, 0, 0, 0, [], []))],
  [(32, (.iastore, 33, 0, 0, 0, [], [])), (33, (.aload_n 0, 34, 0, 0, 0, [], [])), (34, (.iconst 1, 35, 0, 1, 0, [], [])), (35, (.putfield 26, 38, 0, 0, 0, [], [])), (38, (.iconst 1, 39, 0, 1, 0, [], [])), (39, (.ireturn, 40, 0, 0, 0, [], []))]]
noncomputable abbrev zT_50 : zT := (7, zI_50, 3, 2) -- X7_takesKind
noncomputable def zI_51 : List (List (Nat × zE)) := [[(0, (.iload_n 1, 1, 0, 0, 0, [], [])), (1, (.bipush (-15), 3, 0, (-15), 0, [], [])), (3, (.if_icmp .eq 5, 6, 8, 0, 0, [], [])), (6, (.iconst 0, 7, 0, 0, 0, [], [])), (7, (.ireturn, 8, 0, 0, 0, [], [])), (8, (.aload_n 0, 9, 0, 0, 0, [], [])), (9, (.iconst 4, 10, 0, 4, 0, [], [])), (10, (.putfield 26, 13, 0, 0, 0, [], [])), (13, (.iconst 1, 14, 0, 1, 0, [], [])), (14, (.ireturn, 15, 0, 0, 0, [], []))]]
noncomputable abbrev zT_51 : zT := (7, zI_51, 3, 2) -- X7_takesIf
noncomputable def zI_52 : List (List (Nat × zE)) := [[(0, (.iload_n 1, 1, 0, 0, 0, [], [])), (1, (.bipush (-16), 3, 0, (-16), 0, [], [])), (3, (.if_icmp .eq 17, 6, 20, 0, 0, [], [])), (6, (.iload_n 1, 7, 0, 0, 0, [], [])), (7, (.bipush (-17), 9, 0, (-17), 0, [], [])), (9, (.if_icmp .eq 11, 12, 20, 0, 0, [], [])), (12, (.iload_n 1, 13, 0, 0, 0, [], [])), (13, (.bipush (-18), 15, 0, (-18), 0, [], [])), (15, (.if_icmp .eq 5, 18, 20, 0, 0, [], [])), (18, (.iconst 0, 19, 0, 0, 0, [], [])), (19, (.ireturn, 20, 0, 0, 0, [], [])), (20, (.aload_n 0, 21, 0, 0, 0, [], [true, true])), (21, (.bipush (-11), 23, 0, (-11), 0, [], [])), (23, (.invokevirtual 90, 26, 0, 0, 0, [], [])), (26, (.aload_n 0, 27, 0, 0, 0, [], [])), (27, (.getfield 12, 30, 0, 0, 0, [], [])), (30, (.getfield 94, 33, 0, 0, 0, [], []))],
  [(33, (.aload_n 0, 34, 0, 0, 0, [], [])), (34, (.getfield 12, 37, 0, 0, 0, [], [])), (37, (.getfield 22, 40, 0, 0, 0, [], [])), (40, (.iload_n 1, 41, 0, 0, 0, [], [])), (41, (.iastore, 42, 0, 0, 0, [], [])), (42, (.aload_n 0, 43, 0, 0, 0, [], [])), (43, (.iload_n 1, 44, 0, 0, 0, [], [])), (44, (.bipush (-18), 46, 0, (-18), 0, [], [])), (46, (.if_icmp .ne 7, 49, 53, 0, 0, [], [])), (49, (.iconst 3, 50, 0, 3, 0, [], [])), (50, (.goto 4, 53, 54, 0, 0, [], [])), (53, (.iconst 2, 54, 0, 2, 0, [], [])), (54, (.putfield 26, 57, 0, 0, 0, [], [])), (57, (.iconst 1, 58, 0, 1, 0, [], [])), (58, (.ireturn, 59, 0, 0, 0, [], []))]]
noncomputable abbrev zT_52 : zT := (7, zI_52, 3, 2) -- X7_takesDeed
noncomputable def zI_53 : List (List (Nat × zE)) := [[(0, (.iload_n 1, 1, 0, 0, 0, [], [])), (1, (.iconst 0, 2, 0, 0, 0, [], [])), (2, (.sipush 999, 5, 0, 999, 0, [], [])), (5, (.invokestatic 83, 8, 0, 0, 0, [], [])), (8, (.ifCond .ne 5, 11, 13, 0, 0, [], [])), (11, (.iconst 0, 12, 0, 0, 0, [], [])), (12, (.ireturn, 13, 0, 0, 0, [], [])), (13, (.aload_n 0, 14, 0, 0, 0, [], [])), (14, (.getfield 12, 17, 0, 0, 0, [], [])), (17, (.getfield 97, 20, 0, 0, 0, [], [])), (20, (.aload_n 0, 21, 0, 0, 0, [], [])), (21, (.getfield 12, 24, 0, 0, 0, [], [])), (24, (.getfield 22, 27, 0, 0, 0, [], [])), (27, (.iload_n 1, 28, 0, 0, 0, [], [])), (28, (.iastore, 29, 0, 0, 0, [], [])), (29, (.aload_n 0, 30, 0, 0, 0, [], [])), (30, (.iconst 3, 31, 0, 3, 0, [], [])), (31, (.putfield 26, 34, 0, 0, 0, [], []))],
  [(34, (.iconst 1, 35, 0, 1, 0, [], [])), (35, (.ireturn, 36, 0, 0, 0, [], []))]]
noncomputable abbrev zT_53 : zT := (7, zI_53, 3, 2) -- X7_takesAmount
noncomputable def zI_54 : List (List (Nat × zE)) := [[(0, (.iload_n 1, 1, 0, 0, 0, [], [])), (1, (.bipush (-14), 3, 0, (-14), 0, [], [])), (3, (.if_icmp .eq 5, 6, 8, 0, 0, [], [])), (6, (.iconst 0, 7, 0, 0, 0, [], [])), (7, (.ireturn, 8, 0, 0, 0, [], [])), (8, (.aload_n 0, 9, 0, 0, 0, [], [])), (9, (.getfield 12, 12, 0, 0, 0, [], [])), (12, (.getfield 100, 15, 0, 0, 0, [], [])), (15, (.aload_n 0, 16, 0, 0, 0, [], [])), (16, (.getfield 12, 19, 0, 0, 0, [], [])), (19, (.getfield 22, 22, 0, 0, 0, [], [])), (22, (.aload_n 0, 23, 0, 0, 0, [], [])), (23, (.getfield 32, 26, 0, 0, 0, [], [])), (26, (.iastore, 27, 0, 0, 0, [], [])), (27, (.aload_n 0, 28, 0, 0, 0, [], [])), (28, (.getfield 12, 31, 0, 0, 0, [], [])), (31, (.dup, 32, 0, 0, 0, [], []))],
  [(32, (.getfield 22, 35, 0, 0, 0, [], [])), (35, (.iconst 1, 36, 0, 1, 0, [], [])), (36, (.iadd, 37, 0, 0, 0, [], [])), (37, (.putfield 22, 40, 0, 0, 0, [], [])), (40, (.aload_n 0, 41, 0, 0, 0, [], [])), (41, (.iconst 0, 42, 0, 0, 0, [], [])), (42, (.putfield 26, 45, 0, 0, 0, [], [])), (45, (.iconst 1, 46, 0, 1, 0, [], [])), (46, (.ireturn, 47, 0, 0, 0, [], []))]]
noncomputable abbrev zT_54 : zT := (7, zI_54, 3, 2) -- X7_takesEnd
noncomputable def zI_55 : List (List (Nat × zE)) := [[(0, (.iload_n 1, 1, 0, 0, 0, [], [])), (1, (.bipush (-9), 3, 0, (-9), 0, [], [])), (3, (.if_icmp .ne 11, 6, 14, 0, 0, [], [])), (6, (.aload_n 0, 7, 0, 0, 0, [], [])), (7, (.bipush (-9), 9, 0, (-9), 0, [], [])), (9, (.invokevirtual 103, 12, 0, 0, 0, [], [])), (12, (.iconst 1, 13, 0, 1, 0, [], [])), (13, (.ireturn, 14, 0, 0, 0, [], [])), (14, (.iload_n 1, 15, 0, 0, 0, [], [])), (15, (.bipush (-12), 17, 0, (-12), 0, [], [])), (17, (.if_icmp .ne 29, 20, 46, 0, 0, [], [])), (20, (.aload_n 0, 21, 0, 0, 0, [], [])), (21, (.getfield 29, 24, 0, 0, 0, [], [])), (24, (.iconst 3, 25, 0, 3, 0, [], [])), (25, (.if_icmp .ge 21, 28, 46, 0, 0, [], [])), (28, (.aload_n 0, 29, 0, 0, 0, [], [])), (29, (.dup, 30, 0, 0, 0, [], [])), (30, (.getfield 29, 33, 0, 0, 0, [], []))],
  [(33, (.iconst 1, 34, 0, 1, 0, [], [])), (34, (.iadd, 35, 0, 0, 0, [], [])), (35, (.putfield 29, 38, 0, 0, 0, [], [])), (38, (.aload_n 0, 39, 0, 0, 0, [], [])), (39, (.bipush (-12), 41, 0, (-12), 0, [], [])), (41, (.invokevirtual 103, 44, 0, 0, 0, [], [])), (44, (.iconst 1, 45, 0, 1, 0, [], [])), (45, (.ireturn, 46, 0, 0, 0, [], [])), (46, (.iload_n 1, 47, 0, 0, 0, [], [])), (47, (.invokestatic 106, 50, 0, 0, 0, [], [])), (50, (.ifCond .ne 5, 53, 55, 0, 0, [], [])), (53, (.iconst 0, 54, 0, 0, 0, [], [])), (54, (.ireturn, 55, 0, 0, 0, [], [])), (55, (.aload_n 0, 56, 0, 0, 0, [], [])), (56, (.iload_n 1, 57, 0, 0, 0, [], [])), (57, (.invokevirtual 109, 60, 0, 0, 0, [], [])), (60, (.aload_n 0, 61, 0, 0, 0, [], [])), (61, (.iconst 5, 62, 0, 5, 0, [], [])), (62, (.putfield 26, 65, 0, 0, 0, [], []))],
  [(65, (.iconst 1, 66, 0, 1, 0, [], [])), (66, (.ireturn, 67, 0, 0, 0, [], []))]]
noncomputable abbrev zT_55 : zT := (7, zI_55, 3, 2) -- X7_takesOne
noncomputable def zI_56 : List (List (Nat × zE)) := [[(0, (.iload_n 1, 1, 0, 0, 0, [], [])), (1, (.bipush (-8), 3, 0, (-8), 0, [], [])), (3, (.bipush (-6), 5, 0, (-6), 0, [], [])), (5, (.invokestatic 83, 8, 0, 0, 0, [], [])), (8, (.ifCond .ne 5, 11, 13, 0, 0, [], [])), (11, (.iconst 0, 12, 0, 0, 0, [], [])), (12, (.ireturn, 13, 0, 0, 0, [], [])), (13, (.aload_n 0, 14, 0, 0, 0, [], [])), (14, (.iload_n 1, 15, 0, 0, 0, [], [])), (15, (.putfield 112, 18, 0, 0, 0, [], [])), (18, (.aload_n 0, 19, 0, 0, 0, [], [])), (19, (.bipush 6, 21, 0, 6, 0, [], [])), (21, (.putfield 26, 24, 0, 0, 0, [], [])), (24, (.iconst 1, 25, 0, 1, 0, [], [])), (25, (.ireturn, 26, 0, 0, 0, [], []))]]
noncomputable abbrev zT_56 : zT := (7, zI_56, 3, 2) -- X7_takesSign
noncomputable def zI_57 : List (List (Nat × zE)) := [[(0, (.iload_n 1, 1, 0, 0, 0, [], [])), (1, (.invokestatic 106, 4, 0, 0, 0, [], [])), (4, (.ifCond .ne 5, 7, 9, 0, 0, [], [])), (7, (.iconst 0, 8, 0, 0, 0, [], [])), (8, (.ireturn, 9, 0, 0, 0, [], [])), (9, (.aload_n 0, 10, 0, 0, 0, [], [])), (10, (.iload_n 1, 11, 0, 0, 0, [], [])), (11, (.invokevirtual 109, 14, 0, 0, 0, [], [])), (14, (.aload_n 0, 15, 0, 0, 0, [], [])), (15, (.aload_n 0, 16, 0, 0, 0, [], [])), (16, (.getfield 112, 19, 0, 0, 0, [], [])), (19, (.invokevirtual 109, 22, 0, 0, 0, [], [])), (22, (.aload_n 0, 23, 0, 0, 0, [], [])), (23, (.bipush 7, 25, 0, 7, 0, [], [])), (25, (.putfield 26, 28, 0, 0, 0, [], [])), (28, (.iconst 1, 29, 0, 1, 0, [], [])), (29, (.ireturn, 30, 0, 0, 0, [], []))]]
noncomputable abbrev zT_57 : zT := (7, zI_57, 3, 2) -- X7_takesValue
noncomputable def zI_58 : List (List (Nat × zE)) := [[(0, (.iload_n 1, 1, 0, 0, 0, [], [])), (1, (.bipush (-10), 3, 0, (-10), 0, [], [])), (3, (.if_icmp .eq 9, 6, 12, 0, 0, [], [])), (6, (.iload_n 1, 7, 0, 0, 0, [], [])), (7, (.bipush (-11), 9, 0, (-11), 0, [], [])), (9, (.if_icmp .ne 20, 12, 29, 0, 0, [], [])), (12, (.aload_n 0, 13, 0, 0, 0, [], [])), (13, (.iload_n 1, 14, 0, 0, 0, [], [])), (14, (.invokevirtual 90, 17, 0, 0, 0, [], [])), (17, (.aload_n 0, 18, 0, 0, 0, [], [])), (18, (.iload_n 1, 19, 0, 0, 0, [], [])), (19, (.invokevirtual 103, 22, 0, 0, 0, [], [])), (22, (.aload_n 0, 23, 0, 0, 0, [], [])), (23, (.iconst 4, 24, 0, 4, 0, [], [])), (24, (.putfield 26, 27, 0, 0, 0, [], [])), (27, (.iconst 1, 28, 0, 1, 0, [], [])), (28, (.ireturn, 29, 0, 0, 0, [], [])), (29, (.iload_n 1, 30, 0, 0, 0, [], [])), (30, (.bipush (-13), 32, 0, (-13), 0, [], []))],
  [(32, (.if_icmp .ne 10, 35, 42, 0, 0, [], [])), (35, (.aload_n 0, 36, 0, 0, 0, [], [])), (36, (.getfield 29, 39, 0, 0, 0, [], [])), (39, (.ifCond .ne 5, 42, 44, 0, 0, [], [])), (42, (.iconst 0, 43, 0, 0, 0, [], [])), (43, (.ireturn, 44, 0, 0, 0, [], [])), (44, (.aload_n 0, 45, 0, 0, 0, [], [])), (45, (.bipush (-11), 47, 0, (-11), 0, [], [])), (47, (.invokevirtual 90, 50, 0, 0, 0, [], [])), (50, (.aload_n 0, 51, 0, 0, 0, [], [])), (51, (.iconst 0, 52, 0, 0, 0, [], [])), (52, (.aload_n 0, 53, 0, 0, 0, [], [])), (53, (.getfield 35, 56, 0, 0, 0, [], [])), (56, (.iconst 1, 57, 0, 1, 0, [], [])), (57, (.isub, 58, 0, 0, 0, [], [])), (58, (.invokestatic 115, 61, 0, 0, 0, [], [])), (61, (.putfield 35, 64, 0, 0, 0, [], []))],
  [(64, (.aload_n 0, 65, 0, 0, 0, [], [])), (65, (.dup, 66, 0, 0, 0, [], [])), (66, (.getfield 29, 69, 0, 0, 0, [], [])), (69, (.iconst 1, 70, 0, 1, 0, [], [])), (70, (.isub, 71, 0, 0, 0, [], [])), (71, (.putfield 29, 74, 0, 0, 0, [], [])), (74, (.iconst 1, 75, 0, 1, 0, [], [])), (75, (.ireturn, 76, 0, 0, 0, [], []))]]
noncomputable abbrev zT_58 : zT := (7, zI_58, 3, 2) -- X7_takesJoint
noncomputable def zI_59 : List (List (Nat × zE)) := [[(0, (.iload_n 0, 1, 0, 0, 0, [], [])), (1, (.bipush (-5), 3, 0, (-5), 0, [], [])), (3, (.if_icmp .lt 7, 6, 10, 0, 0, [], [])), (6, (.iconst 1, 7, 0, 1, 0, [], [])), (7, (.goto 4, 10, 11, 0, 0, [], [])), (10, (.iconst 0, 11, 0, 0, 0, [], [])), (11, (.ireturn, 12, 0, 0, 0, [], []))]]
noncomputable abbrev zT_59 : zT := (7, zI_59, 3, 1) -- X7_isValue
noncomputable def zI_60 : List (List (Nat × zE)) := [[(0, (.aload_n 0, 1, 0, 0, 0, [], [])), (1, (.getfield 35, 4, 0, 0, 0, [], [])), (4, (.sipush 200, 7, 0, 200, 0, [], [])), (7, (.if_icmp .ge 23, 10, 30, 0, 0, [], [])), (10, (.aload_n 0, 11, 0, 0, 0, [], [])), (11, (.getfield 18, 14, 0, 0, 0, [], [])), (14, (.aload_n 0, 15, 0, 0, 0, [], [])), (15, (.getfield 35, 18, 0, 0, 0, [], [])), (18, (.iload_n 1, 19, 0, 0, 0, [], [])), (19, (.iastore, 20, 0, 0, 0, [], [])), (20, (.aload_n 0, 21, 0, 0, 0, [], [])), (21, (.dup, 22, 0, 0, 0, [], [])), (22, (.getfield 35, 25, 0, 0, 0, [], [])), (25, (.iconst 1, 26, 0, 1, 0, [], [])), (26, (.iadd, 27, 0, 0, 0, [], [])), (27, (.putfield 35, 30, 0, 0, 0, [], [])), (30, (.return_, 31, 0, 0, 0, [], []))]]
noncomputable abbrev zT_60 : zT := (7, zI_60, 0, 2) -- X7_await
noncomputable def zI_61 : List (List (Nat × zE)) := [[(0, (.aload_n 0, 1, 0, 0, 0, [], [])), (1, (.getfield 35, 4, 0, 0, 0, [], [])), (4, (.iconst 1, 5, 0, 1, 0, [], [])), (5, (.isub, 6, 0, 0, 0, [], [])), (6, (.istore_n 2, 7, 0, 0, 0, [], [])), (7, (.iload_n 2, 8, 0, 0, 0, [], [true, true, true])), (8, (.ifCond .lt 34, 11, 42, 0, 0, [], [])), (11, (.aload_n 0, 12, 0, 0, 0, [], [])), (12, (.getfield 18, 15, 0, 0, 0, [], [])), (15, (.iload_n 2, 16, 0, 0, 0, [], [])), (16, (.iaload, 17, 0, 0, 0, [], [])), (17, (.iload_n 1, 18, 0, 0, 0, [], [])), (18, (.if_icmp .lt 24, 21, 42, 0, 0, [], [])), (21, (.aload_n 0, 22, 0, 0, 0, [], [])), (22, (.aload_n 0, 23, 0, 0, 0, [], [])), (23, (.getfield 18, 26, 0, 0, 0, [], [])), (26, (.iload_n 2, 27, 0, 0, 0, [], [])), (27, (.iaload, 28, 0, 0, 0, [], [])), (28, (.invokevirtual 109, 31, 0, 0, 0, [], [])), (31, (.aload_n 0, 32, 0, 0, 0, [], []))],
  [(32, (.iload_n 2, 33, 0, 0, 0, [], [])), (33, (.putfield 35, 36, 0, 0, 0, [], [])), (36, (.iinc 2 (-1), 39, 0, (-1), 0, [], [])), (39, (.goto (-32), 42, 7, 0, 0, [], [])), (42, (.return_, 43, 0, 0, 0, [], []))]]
noncomputable abbrev zT_61 : zT := (7, zI_61, 0, 3) -- X7_settle
noncomputable def zI_62 : List (List (Nat × zE)) := [[(0, (.aload_n 0, 1, 0, 0, 0, [], [])), (1, (.getfield 32, 4, 0, 0, 0, [], [])), (4, (.sipush 200, 7, 0, 200, 0, [], [])), (7, (.if_icmp .ge 26, 10, 33, 0, 0, [], [])), (10, (.aload_n 0, 11, 0, 0, 0, [], [])), (11, (.getfield 12, 14, 0, 0, 0, [], [])), (14, (.getfield 120, 17, 0, 0, 0, [], [])), (17, (.aload_n 0, 18, 0, 0, 0, [], [])), (18, (.getfield 32, 21, 0, 0, 0, [], [])), (21, (.iload_n 1, 22, 0, 0, 0, [], [])), (22, (.iastore, 23, 0, 0, 0, [], [])), (23, (.aload_n 0, 24, 0, 0, 0, [], [])), (24, (.dup, 25, 0, 0, 0, [], [])), (25, (.getfield 32, 28, 0, 0, 0, [], [])), (28, (.iconst 1, 29, 0, 1, 0, [], [])), (29, (.iadd, 30, 0, 0, 0, [], [])), (30, (.putfield 32, 33, 0, 0, 0, [], []))],
  [(33, (.return_, 34, 0, 0, 0, [], []))]]
noncomputable abbrev zT_62 : zT := (7, zI_62, 0, 2) -- X7_step
noncomputable def zI_63 : List (List (Nat × zE)) := [[(0, (.aload_n 0, 1, 0, 0, 0, [], [])), (1, (.aload_n 1, 2, 0, 0, 0, [], [])), (2, (.getfield 33, 5, 0, 0, 0, [], [])), (5, (.putfield 33, 8, 0, 0, 0, [], [])), (8, (.aload_n 1, 9, 0, 0, 0, [], [])), (9, (.getfield 9, 12, 0, 0, 0, [], [])), (12, (.aload_n 0, 13, 0, 0, 0, [], [])), (13, (.getfield 9, 16, 0, 0, 0, [], [])), (16, (.invokestatic 37, 19, 0, 0, 0, [], [])), (19, (.aload_n 1, 20, 0, 0, 0, [], [])), (20, (.getfield 15, 23, 0, 0, 0, [], [])), (23, (.aload_n 0, 24, 0, 0, 0, [], [])), (24, (.getfield 15, 27, 0, 0, 0, [], [])), (27, (.invokestatic 37, 30, 0, 0, 0, [], [])), (30, (.aload_n 1, 31, 0, 0, 0, [], [])), (31, (.getfield 18, 34, 0, 0, 0, [], []))],
  [(34, (.aload_n 0, 35, 0, 0, 0, [], [])), (35, (.getfield 18, 38, 0, 0, 0, [], [])), (38, (.invokestatic 37, 41, 0, 0, 0, [], [])), (41, (.aload_n 1, 42, 0, 0, 0, [], [])), (42, (.getfield 21, 45, 0, 0, 0, [], [])), (45, (.aload_n 0, 46, 0, 0, 0, [], [])), (46, (.getfield 21, 49, 0, 0, 0, [], [])), (49, (.invokestatic 37, 52, 0, 0, 0, [], [])), (52, (.aload_n 1, 53, 0, 0, 0, [], [])), (53, (.getfield 24, 56, 0, 0, 0, [], [])), (56, (.aload_n 0, 57, 0, 0, 0, [], [])), (57, (.getfield 24, 60, 0, 0, 0, [], [])), (60, (.invokestatic 37, 63, 0, 0, 0, [], [])), (63, (.return_, 64, 0, 0, 0, [], []))]]
noncomputable abbrev zT_63 : zT := (8, zI_63, 0, 2) -- X8_copyFrom
noncomputable def zI_64 : List (List (Nat × zE)) := [[(0, (.aload_n 0, 1, 0, 0, 0, [], [])), (1, (.getfield 27, 4, 0, 0, 0, [], [])), (4, (.iconst 0, 5, 0, 0, 0, [], [])), (5, (.iload_n 1, 6, 0, 0, 0, [], [])), (6, (.iastore, 7, 1, 0, 0, [], [])), (7, (.aload_n 0, 8, 0, 0, 0, [], [])), (8, (.getfield 27, 11, 0, 0, 0, [], [])), (11, (.iconst 1, 12, 0, 1, 0, [], [])), (12, (.iload_n 2, 13, 0, 0, 0, [], [])), (13, (.iastore, 14, 2, 0, 0, [], [])), (14, (.aload_n 0, 15, 0, 0, 0, [], [])), (15, (.getfield 27, 18, 0, 0, 0, [], [])), (18, (.iconst 2, 19, 0, 2, 0, [], [])), (19, (.iload_n 3, 20, 0, 0, 0, [], [])), (20, (.iastore, 21, 3, 0, 0, [], [])), (21, (.aload_n 0, 22, 0, 0, 0, [], [])), (22, (.getfield 27, 25, 0, 0, 0, [], [])), (25, (.iconst 3, 26, 0, 3, 0, [], [])), (26, (.iload 4, 28, 0, 0, 0, [], [])), (28, (.iastore, 29, 4, 0, 0, [], [])), (29, (.aload_n 0, 30, 0, 0, 0, [], [])), (30, (.getfield 27, 33, 0, 0, 0, [], []))],
  [(33, (.iconst 4, 34, 0, 4, 0, [], [])), (34, (.iload 5, 36, 0, 0, 0, [], [])), (36, (.iastore, 37, 5, 0, 0, [], [])), (37, (.return_, 38, 0, 0, 0, [], []))]]
noncomputable abbrev zT_64 : zT := (8, zI_64, 0, 6) -- X8_setFacts
noncomputable def zI_65 : List (List (Nat × zE)) := [[(0, (.aload_n 0, 1, 0, 0, 0, [], [])), (1, (.getfield 27, 4, 0, 0, 0, [], [])), (4, (.iconst 3, 5, 0, 3, 0, [], [])), (5, (.iaload, 6, 4, 0, 0, [], [])), (6, (.istore_n 2, 7, 0, 0, 0, [], [])), (7, (.iconst 0, 8, 0, 0, 0, [], [])), (8, (.istore_n 3, 9, 0, 0, 0, [], [])), (9, (.iconst 0, 10, 0, 0, 0, [], [])), (10, (.istore 4, 12, 0, 0, 0, [], [])), (12, (.iload 4, 14, 0, 0, 0, [], [true, true, true, true, true])), (14, (.aload_n 0, 15, 0, 0, 0, [], [])), (15, (.getfield 33, 18, 0, 0, 0, [], [])), (18, (.if_icmp .ge 54, 21, 72, 0, 0, [], [])), (21, (.iload_n 1, 22, 0, 0, 0, [], [])), (22, (.aload_n 0, 23, 0, 0, 0, [], [])), (23, (.getfield 9, 26, 0, 0, 0, [], [])), (26, (.iload 4, 28, 0, 0, 0, [], [])), (28, (.iaload, 29, 0, 0, 0, [], [])), (29, (.invokestatic 41, 32, 0, 0, 0, [], []))],
  [(32, (.ifCond .eq 26, 35, 58, 0, 0, [], [])), (35, (.aload_n 0, 36, 0, 0, 0, [], [])), (36, (.iload_n 3, 37, 0, 0, 0, [], [])), (37, (.aload_n 0, 38, 0, 0, 0, [], [])), (38, (.getfield 21, 41, 0, 0, 0, [], [])), (41, (.iload 4, 43, 0, 0, 0, [], [])), (43, (.iaload, 44, 0, 0, 0, [], [])), (44, (.invokevirtual 45, 47, 0, 0, 0, [], [])), (47, (.ifCond .eq 11, 50, 58, 0, 0, [], [])), (50, (.aload_n 0, 51, 0, 0, 0, [], [])), (51, (.iload 4, 53, 0, 0, 0, [], [])), (53, (.iload_n 2, 54, 0, 0, 0, [], [])), (54, (.invokevirtual 48, 57, 0, 0, 0, [], [])), (57, (.ireturn, 58, 0, 0, 0, [], [])), (58, (.aload_n 0, 59, 0, 0, 0, [], [])), (59, (.getfield 21, 62, 0, 0, 0, [], [])), (62, (.iload 4, 64, 0, 0, 0, [], []))],
  [(64, (.iaload, 65, 0, 0, 0, [], [])), (65, (.istore_n 3, 66, 0, 0, 0, [], [])), (66, (.iinc 4 1, 69, 0, 1, 0, [], [])), (69, (.goto (-57), 72, 12, 0, 0, [], [])), (72, (.iload_n 2, 73, 0, 0, 0, [], [])), (73, (.ireturn, 74, 0, 0, 0, [], []))]]
noncomputable abbrev zT_65 : zT := (8, zI_65, 1, 5) -- X8_changed
noncomputable def zI_66 : List (List (Nat × zE)) := [[(0, (.aload_n 0, 1, 0, 0, 0, [], [])), (1, (.getfield 15, 4, 0, 0, 0, [], [])), (4, (.iload_n 1, 5, 0, 0, 0, [], [])), (5, (.iaload, 6, 0, 0, 0, [], [])), (6, (.bipush (-16), 8, 0, (-16), 0, [], [])), (8, (.if_icmp .ne 12, 11, 20, 0, 0, [], [])), (11, (.iload_n 2, 12, 0, 0, 0, [], [])), (12, (.aload_n 0, 13, 0, 0, 0, [], [])), (13, (.getfield 18, 16, 0, 0, 0, [], [])), (16, (.iload_n 1, 17, 0, 0, 0, [], [])), (17, (.iaload, 18, 0, 0, 0, [], [])), (18, (.iadd, 19, 0, 0, 0, [], [])), (19, (.ireturn, 20, 0, 0, 0, [], [])), (20, (.aload_n 0, 21, 0, 0, 0, [], [])), (21, (.getfield 15, 24, 0, 0, 0, [], [])), (24, (.iload_n 1, 25, 0, 0, 0, [], [])), (25, (.iaload, 26, 0, 0, 0, [], [])), (26, (.bipush (-17), 28, 0, (-17), 0, [], [])), (28, (.if_icmp .ne 16, 31, 44, 0, 0, [], [])), (31, (.iconst 0, 32, 0, 0, 0, [], []))],
  [(32, (.iload_n 2, 33, 0, 0, 0, [], [])), (33, (.aload_n 0, 34, 0, 0, 0, [], [])), (34, (.getfield 18, 37, 0, 0, 0, [], [])), (37, (.iload_n 1, 38, 0, 0, 0, [], [])), (38, (.iaload, 39, 0, 0, 0, [], [])), (39, (.isub, 40, 0, 0, 0, [], [])), (40, (.invokestatic 52, 43, 0, 0, 0, [], [])), (43, (.ireturn, 44, 0, 0, 0, [], [])), (44, (.iconst 0, 45, 0, 0, 0, [], [])), (45, (.ireturn, 46, 0, 0, 0, [], []))]]
noncomputable abbrev zT_66 : zT := (8, zI_66, 1, 3) -- X8_changedBy
noncomputable def zI_67 : List (List (Nat × zE)) := [[(0, (.iconst 0, 1, 0, 0, 0, [], [])), (1, (.istore_n 3, 2, 0, 0, 0, [], [])), (2, (.iload_n 1, 3, 0, 0, 0, [], [])), (3, (.istore 4, 5, 0, 0, 0, [], [])), (5, (.iload 4, 7, 0, 0, 0, [], [true, false, true, true, true, false])), (7, (.iload_n 2, 8, 0, 0, 0, [], [])), (8, (.if_icmp .ge 137, 11, 145, 0, 0, [], [])), (11, (.aload_n 0, 12, 0, 0, 0, [], [])), (12, (.getfield 24, 15, 0, 0, 0, [], [])), (15, (.iload 4, 17, 0, 0, 0, [], [])), (17, (.iaload, 18, 0, 0, 0, [], [])), (18, (.istore 5, 20, 0, 0, 0, [], [])), (20, (.iload 5, 22, 0, 0, 0, [], [])), (22, (.bipush (-5), 24, 0, (-5), 0, [], [])), (24, (.if_icmp .lt 40, 27, 64, 0, 0, [], [])), (27, (.iload_n 3, 28, 0, 0, 0, [], [])), (28, (.bipush 16, 30, 0, 16, 0, [], [])), (30, (.if_icmp .ge 109, 33, 139, 0, 0, [], []))],
  [(33, (.aload_n 0, 34, 0, 0, 0, [], [])), (34, (.getfield 30, 37, 0, 0, 0, [], [])), (37, (.iload_n 3, 38, 0, 0, 0, [], [])), (38, (.iinc 3 1, 41, 0, 1, 0, [], [])), (41, (.iload 5, 43, 0, 0, 0, [], [])), (43, (.ifCond .lt 8, 46, 51, 0, 0, [], [])), (46, (.iload 5, 48, 0, 0, 0, [], [])), (48, (.goto 12, 51, 60, 0, 0, [], [])), (51, (.aload_n 0, 52, 0, 0, 0, [], [])), (52, (.getfield 27, 55, 0, 0, 0, [], [])), (55, (.iconst (-1), 56, 0, (-1), 0, [], [])), (56, (.iload 5, 58, 0, 0, 0, [], [])), (58, (.isub, 59, 0, 0, 0, [], [])), (59, (.iaload, 60, 0, 0, 0, [], [])), (60, (.iastore, 61, 0, 0, 0, [], [])), (61, (.goto 78, 64, 139, 0, 0, [], []))],
  [(64, (.iload 5, 66, 0, 0, 0, [], [])), (66, (.bipush (-9), 68, 0, (-9), 0, [], [])), (68, (.if_icmp .ne 28, 71, 96, 0, 0, [], [])), (71, (.iload_n 3, 72, 0, 0, 0, [], [])), (72, (.ifCond .le 67, 75, 139, 0, 0, [], [])), (75, (.aload_n 0, 76, 0, 0, 0, [], [])), (76, (.getfield 30, 79, 0, 0, 0, [], [])), (79, (.iload_n 3, 80, 0, 0, 0, [], [])), (80, (.iconst 1, 81, 0, 1, 0, [], [])), (81, (.isub, 82, 0, 0, 0, [], [])), (82, (.iconst 1, 83, 0, 1, 0, [], [])), (83, (.aload_n 0, 84, 0, 0, 0, [], [])), (84, (.getfield 30, 87, 0, 0, 0, [], [])), (87, (.iload_n 3, 88, 0, 0, 0, [], [])), (88, (.iconst 1, 89, 0, 1, 0, [], [])), (89, (.isub, 90, 0, 0, 0, [], [])), (90, (.iaload, 91, 0, 0, 0, [], [])), (91, (.isub, 92, 0, 0, 0, [], [])), (92, (.iastore, 93, 0, 0, 0, [], [])), (93, (.goto 46, 96, 139, 0, 0, [], []))],
  [(96, (.iload_n 3, 97, 0, 0, 0, [], [])), (97, (.iconst 1, 98, 0, 1, 0, [], [])), (98, (.if_icmp .le 41, 101, 139, 0, 0, [], [])), (101, (.iinc 3 (-1), 104, 0, (-1), 0, [], [])), (104, (.aload_n 0, 105, 0, 0, 0, [], [])), (105, (.getfield 30, 108, 0, 0, 0, [], [])), (108, (.iload_n 3, 109, 0, 0, 0, [], [])), (109, (.iconst 1, 110, 0, 1, 0, [], [])), (110, (.isub, 111, 0, 0, 0, [], [])), (111, (.iload 5, 113, 0, 0, 0, [], [])), (113, (.aload_n 0, 114, 0, 0, 0, [], [])), (114, (.getfield 30, 117, 0, 0, 0, [], [])), (117, (.iload_n 3, 118, 0, 0, 0, [], [])), (118, (.iconst 1, 119, 0, 1, 0, [], [])), (119, (.isub, 120, 0, 0, 0, [], [])), (120, (.iaload, 121, 0, 0, 0, [], [])), (121, (.aload_n 0, 122, 0, 0, 0, [], [])), (122, (.getfield 30, 125, 0, 0, 0, [], [])), (125, (.iload_n 3, 126, 0, 0, 0, [], [])), (126, (.iaload, 127, 0, 0, 0, [], [])), (127, (.invokestatic 57, 130, 0, 0, 0, [], []))],
  [(130, (.ifCond .eq 7, 133, 137, 0, 0, [], [])), (133, (.iconst 1, 134, 0, 1, 0, [], [])), (134, (.goto 4, 137, 138, 0, 0, [], [])), (137, (.iconst 0, 138, 0, 0, 0, [], [])), (138, (.iastore, 139, 0, 0, 0, [], [])), (139, (.iinc 4 1, 142, 0, 1, 0, [], [])), (142, (.goto (-137), 145, 5, 0, 0, [], [])), (145, (.iload_n 3, 146, 0, 0, 0, [], [])), (146, (.ifCond .eq 14, 149, 160, 0, 0, [], [])), (149, (.aload_n 0, 150, 0, 0, 0, [], [])), (150, (.getfield 30, 153, 0, 0, 0, [], [])), (153, (.iload_n 3, 154, 0, 0, 0, [], [])), (154, (.iconst 1, 155, 0, 1, 0, [], [])), (155, (.isub, 156, 0, 0, 0, [], [])), (156, (.iaload, 157, 0, 0, 0, [], [])), (157, (.ifCond .eq 7, 160, 164, 0, 0, [], []))],
  [(160, (.iconst 1, 161, 0, 1, 0, [], [])), (161, (.goto 4, 164, 165, 0, 0, [], [])), (164, (.iconst 0, 165, 0, 0, 0, [], [])), (165, (.ireturn, 166, 0, 0, 0, [], []))]]
noncomputable abbrev zT_67 : zT := (8, zI_67, 3, 6) -- X8_isSo
noncomputable def zI_68 : List (List (Nat × zE)) := [[(0, (.iload_n 0, 1, 0, 0, 0, [], [])), (1, (.tableswitch 82 (-10) (-6) #[68, 82, 57, 46, 35], 36, 83, 0, 0, [((-10), 69), ((-9), 83), ((-8), 58), ((-7), 47), ((-6), 36)], []))],
  [(36, (.iload_n 1, 37, 0, 0, 0, [], [])), (37, (.iload_n 2, 38, 0, 0, 0, [], [])), (38, (.if_icmp .ge 7, 41, 45, 0, 0, [], [])), (41, (.iconst 1, 42, 0, 1, 0, [], [])), (42, (.goto 4, 45, 46, 0, 0, [], [])), (45, (.iconst 0, 46, 0, 0, 0, [], [])), (46, (.ireturn, 47, 0, 0, 0, [], [])), (47, (.iload_n 1, 48, 0, 0, 0, [], [])), (48, (.iload_n 2, 49, 0, 0, 0, [], [])), (49, (.if_icmp .ne 7, 52, 56, 0, 0, [], [])), (52, (.iconst 1, 53, 0, 1, 0, [], [])), (53, (.goto 4, 56, 57, 0, 0, [], [])), (56, (.iconst 0, 57, 0, 0, 0, [], [])), (57, (.ireturn, 58, 0, 0, 0, [], [])), (58, (.iload_n 1, 59, 0, 0, 0, [], [])), (59, (.iload_n 2, 60, 0, 0, 0, [], [])), (60, (.if_icmp .le 7, 63, 67, 0, 0, [], [])), (63, (.iconst 1, 64, 0, 1, 0, [], []))],
  [(64, (.goto 4, 67, 68, 0, 0, [], [])), (67, (.iconst 0, 68, 0, 0, 0, [], [])), (68, (.ireturn, 69, 0, 0, 0, [], [])), (69, (.iload_n 1, 70, 0, 0, 0, [], [])), (70, (.ifCond .eq 11, 73, 81, 0, 0, [], [])), (73, (.iload_n 2, 74, 0, 0, 0, [], [])), (74, (.ifCond .eq 7, 77, 81, 0, 0, [], [])), (77, (.iconst 1, 78, 0, 1, 0, [], [])), (78, (.goto 4, 81, 82, 0, 0, [], [])), (81, (.iconst 0, 82, 0, 0, 0, [], [])), (82, (.ireturn, 83, 0, 0, 0, [], [])), (83, (.iload_n 1, 84, 0, 0, 0, [], [])), (84, (.ifCond .ne 7, 87, 91, 0, 0, [], [])), (87, (.iload_n 2, 88, 0, 0, 0, [], [])), (88, (.ifCond .eq 7, 91, 95, 0, 0, [], [])), (91, (.iconst 1, 92, 0, 1, 0, [], [])), (92, (.goto 4, 95, 96, 0, 0, [], [])), (95, (.iconst 0, 96, 0, 0, 0, [], []))],
  [(96, (.ireturn, 97, 0, 0, 0, [], []))]]
noncomputable abbrev zT_68 : zT := (8, zI_68, 3, 3) -- X8_joined
noncomputable def zI_69 : List (List (Nat × zE)) := [[(0, (.aload_n 0, 1, 0, 0, 0, [], [])), (1, (.getfield 21, 4, 0, 0, 0, [], [])), (4, (.aload_n 1, 5, 0, 0, 0, [], [])), (5, (.invokevirtual 25, 8, 0, 0, 0, [], [])), (8, (.aload_n 0, 9, 0, 0, 0, [], [])), (9, (.iconst 0, 10, 0, 0, 0, [], [])), (10, (.putfield 29, 13, 0, 0, 0, [], [])), (13, (.iconst 0, 14, 0, 0, 0, [], [])), (14, (.istore_n 3, 15, 0, 0, 0, [], [])), (15, (.iload_n 3, 16, 0, 0, 0, [], [true, false, true, true])), (16, (.aload_n 0, 17, 0, 0, 0, [], [])), (17, (.getfield 21, 20, 0, 0, 0, [], [])), (20, (.getfield 33, 23, 0, 0, 0, [], [])), (23, (.getfield 37, 26, 0, 0, 0, [], [])), (26, (.if_icmp .ge 62, 29, 88, 0, 0, [], [])), (29, (.iload_n 2, 30, 0, 0, 0, [], [])), (30, (.iload_n 3, 31, 0, 0, 0, [], [])), (31, (.invokestatic 40, 34, 0, 0, 0, [], []))],
  [(34, (.ifCond .eq 48, 37, 82, 0, 0, [], [])), (37, (.aload_n 0, 38, 0, 0, 0, [], [])), (38, (.getfield 29, 41, 0, 0, 0, [], [])), (41, (.iconst 4, 42, 0, 4, 0, [], [])), (42, (.if_icmp .lt 6, 45, 48, 0, 0, [], [])), (45, (.goto 37, 48, 82, 0, 0, [], [])), (48, (.aload_n 0, 49, 0, 0, 0, [], [])), (49, (.getfield 9, 52, 0, 0, 0, [], [])), (52, (.aload_n 0, 53, 0, 0, 0, [], [])), (53, (.getfield 29, 56, 0, 0, 0, [], [])), (56, (.iload_n 3, 57, 0, 0, 0, [], [])), (57, (.iastore, 58, 0, 0, 0, [], [])), (58, (.aload_n 0, 59, 0, 0, 0, [], [])), (59, (.dup, 60, 0, 0, 0, [], [])), (60, (.getfield 29, 63, 0, 0, 0, [], [])), (63, (.iconst 1, 64, 0, 1, 0, [], []))],
  [(64, (.iadd, 65, 0, 0, 0, [], [])), (65, (.putfield 29, 68, 0, 0, 0, [], [])), (68, (.aload_n 0, 69, 0, 0, 0, [], [])), (69, (.getfield 21, 72, 0, 0, 0, [], [])), (72, (.getfield 33, 75, 0, 0, 0, [], [])), (75, (.getfield 44, 78, 0, 0, 0, [], [])), (78, (.iload_n 3, 79, 0, 0, 0, [], [])), (79, (.bipush (-9), 81, 0, (-9), 0, [], [])), (81, (.iastore, 82, 0, 0, 0, [], [])), (82, (.iinc 3 1, 85, 0, 1, 0, [], [])), (85, (.goto (-70), 88, 15, 0, 0, [], [])), (88, (.aload_n 0, 89, 0, 0, 0, [], [])), (89, (.getfield 21, 92, 0, 0, 0, [], [])), (92, (.invokevirtual 45, 95, 0, 0, 0, [], [])), (95, (.aload_n 0, 96, 0, 0, 0, [], []))],
  [(96, (.getfield 21, 99, 0, 0, 0, [], [])), (99, (.invokevirtual 48, 102, 0, 0, 0, [], [])), (102, (.ifCond .ne 15, 105, 117, 0, 0, [], [])), (105, (.aload_n 0, 106, 0, 0, 0, [], [])), (106, (.iconst 0, 107, 0, 0, 0, [], [])), (107, (.invokevirtual 52, 110, 0, 0, 0, [], [])), (110, (.ifCond .eq 7, 113, 117, 0, 0, [], [])), (113, (.iconst 1, 114, 0, 1, 0, [], [])), (114, (.goto 4, 117, 118, 0, 0, [], [])), (117, (.iconst 0, 118, 0, 0, 0, [], [])), (118, (.ireturn, 119, 0, 0, 0, [], []))]]
noncomputable abbrev zT_69 : zT := (9, zI_69, 3, 4) -- X9_finds
noncomputable def zI_70 : List (List (Nat × zE)) := [[(0, (.iload_n 1, 1, 0, 0, 0, [], [])), (1, (.aload_n 0, 2, 0, 0, 0, [], [])), (2, (.getfield 29, 5, 0, 0, 0, [], [])), (5, (.if_icmp .lt 5, 8, 10, 0, 0, [], [])), (8, (.iconst 1, 9, 0, 1, 0, [], [])), (9, (.ireturn, 10, 0, 0, 0, [], [])), (10, (.aload_n 0, 11, 0, 0, 0, [], [])), (11, (.getfield 21, 14, 0, 0, 0, [], [])), (14, (.getfield 33, 17, 0, 0, 0, [], [])), (17, (.getfield 56, 20, 0, 0, 0, [], [])), (20, (.aload_n 0, 21, 0, 0, 0, [], [])), (21, (.getfield 9, 24, 0, 0, 0, [], [])), (24, (.iload_n 1, 25, 0, 0, 0, [], [])), (25, (.iaload, 26, 0, 0, 0, [], [])), (26, (.iaload, 27, 0, 0, 0, [], [])), (27, (.istore_n 2, 28, 0, 0, 0, [], [])), (28, (.iconst 0, 29, 0, 0, 0, [], [])), (29, (.istore_n 3, 30, 0, 0, 0, [], [])), (30, (.iload_n 3, 31, 0, 0, 0, [], [true, true, true, true])), (31, (.aload_n 0, 32, 0, 0, 0, [], []))],
  [(32, (.getfield 21, 35, 0, 0, 0, [], [])), (35, (.getfield 59, 38, 0, 0, 0, [], [])), (38, (.getfield 63, 41, 0, 0, 0, [], [])), (41, (.if_icmp .ge 74, 44, 115, 0, 0, [], [])), (44, (.aload_n 0, 45, 0, 0, 0, [], [])), (45, (.getfield 21, 48, 0, 0, 0, [], [])), (48, (.getfield 59, 51, 0, 0, 0, [], [])), (51, (.iload_n 3, 52, 0, 0, 0, [], [])), (52, (.invokevirtual 66, 55, 0, 0, 0, [], [])), (55, (.ifCond .ne 6, 58, 61, 0, 0, [], [])), (58, (.goto 51, 61, 109, 0, 0, [], [])), (61, (.aload_n 0, 62, 0, 0, 0, [], [])), (62, (.getfield 15, 65, 0, 0, 0, [], []))],
  [(65, (.iload_n 1, 66, 0, 0, 0, [], [])), (66, (.iload_n 3, 67, 0, 0, 0, [], [])), (67, (.iastore, 68, 0, 0, 0, [], [])), (68, (.aload_n 0, 69, 0, 0, 0, [], [])), (69, (.getfield 21, 72, 0, 0, 0, [], [])), (72, (.iload_n 3, 73, 0, 0, 0, [], [])), (73, (.iload_n 2, 74, 0, 0, 0, [], [])), (74, (.invokevirtual 69, 77, 0, 0, 0, [], [])), (77, (.aload_n 0, 78, 0, 0, 0, [], [])), (78, (.getfield 21, 81, 0, 0, 0, [], [])), (81, (.invokevirtual 48, 84, 0, 0, 0, [], [])), (84, (.ifCond .ne 15, 87, 99, 0, 0, [], [])), (87, (.aload_n 0, 88, 0, 0, 0, [], [])), (88, (.iload_n 1, 89, 0, 0, 0, [], [])), (89, (.iconst 1, 90, 0, 1, 0, [], [])), (90, (.iadd, 91, 0, 0, 0, [], [])), (91, (.invokevirtual 52, 94, 0, 0, 0, [], [])), (94, (.ifCond .eq 5, 97, 99, 0, 0, [], []))],
  [(97, (.iconst 1, 98, 0, 1, 0, [], [])), (98, (.ireturn, 99, 0, 0, 0, [], [])), (99, (.aload_n 0, 100, 0, 0, 0, [], [])), (100, (.getfield 21, 103, 0, 0, 0, [], [])), (103, (.iload_n 3, 104, 0, 0, 0, [], [])), (104, (.iload_n 2, 105, 0, 0, 0, [], [])), (105, (.ineg, 106, 0, 0, 0, [], [])), (106, (.invokevirtual 69, 109, 0, 0, 0, [], [])), (109, (.iinc 3 1, 112, 0, 1, 0, [], [])), (112, (.goto (-82), 115, 30, 0, 0, [], [])), (115, (.iconst 0, 116, 0, 0, 0, [], [])), (116, (.ireturn, 117, 0, 0, 0, [], []))]]
noncomputable abbrev zT_70 : zT := (9, zI_70, 3, 4) -- X9_seatsFrom
noncomputable def zI_71 : List (List (Nat × zE)) := [[(0, (.aload_n 0, 1, 0, 0, 0, [], [])), (1, (.getfield 21, 4, 0, 0, 0, [], [])), (4, (.aload_n 1, 5, 0, 0, 0, [], [])), (5, (.invokevirtual 25, 8, 0, 0, 0, [], [])), (8, (.aload_n 0, 9, 0, 0, 0, [], [])), (9, (.getfield 21, 12, 0, 0, 0, [], [])), (12, (.invokevirtual 45, 15, 0, 0, 0, [], [])), (15, (.aload_n 0, 16, 0, 0, 0, [], [])), (16, (.iload_n 2, 17, 0, 0, 0, [], [])), (17, (.iload_n 3, 18, 0, 0, 0, [], [])), (18, (.invokevirtual 73, 21, 0, 0, 0, [], [])), (21, (.ireturn, 22, 0, 0, 0, [], []))]]
noncomputable abbrev zT_71 : zT := (9, zI_71, 1, 4) -- X9_gameValue
noncomputable def zI_72 : List (List (Nat × zE)) := [[(0, (.aload_n 0, 1, 0, 0, 0, [], [])), (1, (.aload_n 1, 2, 0, 0, 0, [], [])), (2, (.iload_n 2, 3, 0, 0, 0, [], [])), (3, (.iload_n 3, 4, 0, 0, 0, [], [])), (4, (.invokevirtual 77, 7, 0, 0, 0, [], [])), (7, (.istore 4, 9, 0, 0, 0, [], [])), (9, (.aload_n 0, 10, 0, 0, 0, [], [])), (10, (.getfield 21, 13, 0, 0, 0, [], [])), (13, (.getfield 33, 16, 0, 0, 0, [], [])), (16, (.iload_n 2, 17, 0, 0, 0, [], [])), (17, (.invokevirtual 81, 20, 0, 0, 0, [], [])), (20, (.istore 5, 22, 0, 0, 0, [], [])), (22, (.iload 5, 24, 0, 0, 0, [], [])), (24, (.bipush (-9), 26, 0, (-9), 0, [], [])), (26, (.if_icmp .ne 6, 29, 32, 0, 0, [], [])), (29, (.bipush (-3), 31, 0, (-3), 0, [], [])), (31, (.ireturn, 32, 0, 0, 0, [], []))],
  [(32, (.iconst 0, 33, 0, 0, 0, [], [])), (33, (.istore 6, 35, 0, 0, 0, [], [])), (35, (.iload 6, 37, 0, 0, 0, [], [true, false, false, true, true, true, true])), (37, (.aload_n 0, 38, 0, 0, 0, [], [])), (38, (.getfield 21, 41, 0, 0, 0, [], [])), (41, (.getfield 59, 44, 0, 0, 0, [], [])), (44, (.getfield 63, 47, 0, 0, 0, [], [])), (47, (.if_icmp .ge 41, 50, 88, 0, 0, [], [])), (50, (.aload_n 0, 51, 0, 0, 0, [], [])), (51, (.getfield 21, 54, 0, 0, 0, [], [])), (54, (.getfield 59, 57, 0, 0, 0, [], [])), (57, (.iload 6, 59, 0, 0, 0, [], [])), (59, (.invokevirtual 66, 62, 0, 0, 0, [], [])), (62, (.ifCond .eq 20, 65, 82, 0, 0, [], []))],
  [(65, (.aload_n 0, 66, 0, 0, 0, [], [])), (66, (.iload 5, 68, 0, 0, 0, [], [])), (68, (.iload 6, 70, 0, 0, 0, [], [])), (70, (.iload_n 3, 71, 0, 0, 0, [], [])), (71, (.invokevirtual 85, 74, 0, 0, 0, [], [])), (74, (.iload 4, 76, 0, 0, 0, [], [])), (76, (.if_icmp .ne 6, 79, 82, 0, 0, [], [])), (79, (.iload 6, 81, 0, 0, 0, [], [])), (81, (.ireturn, 82, 0, 0, 0, [], [])), (82, (.iinc 6 1, 85, 0, 1, 0, [], [])), (85, (.goto (-50), 88, 35, 0, 0, [], [])), (88, (.bipush (-3), 90, 0, (-3), 0, [], [])), (90, (.ireturn, 91, 0, 0, 0, [], []))]]
noncomputable abbrev zT_72 : zT := (9, zI_72, 1, 7) -- X9_firstMove
noncomputable def zI_73 : List (List (Nat × zE)) := [[(0, (.aload_n 0, 1, 0, 0, 0, [], [])), (1, (.getfield 21, 4, 0, 0, 0, [], [])), (4, (.getfield 33, 7, 0, 0, 0, [], [])), (7, (.iload_n 1, 8, 0, 0, 0, [], [])), (8, (.invokevirtual 81, 11, 0, 0, 0, [], [])), (11, (.istore_n 3, 12, 0, 0, 0, [], [])), (12, (.iload_n 2, 13, 0, 0, 0, [], [])), (13, (.ifCond .le 9, 16, 22, 0, 0, [], [])), (16, (.iload_n 3, 17, 0, 0, 0, [], [])), (17, (.bipush (-9), 19, 0, (-9), 0, [], [])), (19, (.if_icmp .ne 5, 22, 24, 0, 0, [], [])), (22, (.iconst 2, 23, 0, 2, 0, [], [])), (23, (.ireturn, 24, 0, 0, 0, [], [])), (24, (.iconst 0, 25, 0, 0, 0, [], [])), (25, (.istore 4, 27, 0, 0, 0, [], [])), (27, (.iconst 1, 28, 0, 1, 0, [], [])), (28, (.iload_n 1, 29, 0, 0, 0, [], [])), (29, (.isub, 30, 0, 0, 0, [], [])), (30, (.istore 5, 32, 0, 0, 0, [], []))],
  [(32, (.iconst 0, 33, 0, 0, 0, [], [])), (33, (.istore 6, 35, 0, 0, 0, [], [])), (35, (.iload 6, 37, 0, 0, 0, [], [true, true, true, true, true, true, true, false])), (37, (.aload_n 0, 38, 0, 0, 0, [], [])), (38, (.getfield 21, 41, 0, 0, 0, [], [])), (41, (.getfield 59, 44, 0, 0, 0, [], [])), (44, (.getfield 63, 47, 0, 0, 0, [], [])), (47, (.if_icmp .ge 58, 50, 105, 0, 0, [], [])), (50, (.iload 5, 52, 0, 0, 0, [], [])), (52, (.iload_n 1, 53, 0, 0, 0, [], [])), (53, (.if_icmp .eq 52, 56, 105, 0, 0, [], [])), (56, (.aload_n 0, 57, 0, 0, 0, [], [])), (57, (.getfield 21, 60, 0, 0, 0, [], [])), (60, (.getfield 59, 63, 0, 0, 0, [], [])), (63, (.iload 6, 65, 0, 0, 0, [], []))],
  [(65, (.invokevirtual 66, 68, 0, 0, 0, [], [])), (68, (.ifCond .ne 6, 71, 74, 0, 0, [], [])), (71, (.goto 28, 74, 99, 0, 0, [], [])), (74, (.iconst 1, 75, 0, 1, 0, [], [])), (75, (.istore 4, 77, 0, 0, 0, [], [])), (77, (.aload_n 0, 78, 0, 0, 0, [], [])), (78, (.iload_n 3, 79, 0, 0, 0, [], [])), (79, (.iload 6, 81, 0, 0, 0, [], [])), (81, (.iload_n 2, 82, 0, 0, 0, [], [])), (82, (.invokevirtual 85, 85, 0, 0, 0, [], [])), (85, (.istore 7, 87, 0, 0, 0, [], [])), (87, (.iload 7, 89, 0, 0, 0, [], [])), (89, (.iconst 1, 90, 0, 1, 0, [], [])), (90, (.iload_n 1, 91, 0, 0, 0, [], [])), (91, (.isub, 92, 0, 0, 0, [], [])), (92, (.if_icmp .eq 7, 95, 99, 0, 0, [], [])), (95, (.iload 7, 97, 0, 0, 0, [], []))],
  [(97, (.istore 5, 99, 0, 0, 0, [], [])), (99, (.iinc 6 1, 102, 0, 1, 0, [], [])), (102, (.goto (-67), 105, 35, 0, 0, [], [])), (105, (.iload 4, 107, 0, 0, 0, [], [])), (107, (.ifCond .eq 8, 110, 115, 0, 0, [], [])), (110, (.iload 5, 112, 0, 0, 0, [], [])), (112, (.goto 4, 115, 116, 0, 0, [], [])), (115, (.iconst 2, 116, 0, 2, 0, [], [])), (116, (.ireturn, 117, 0, 0, 0, [], []))]]
noncomputable abbrev zT_73 : zT := (9, zI_73, 1, 8) -- X9_valueOf
noncomputable def zI_74 : List (List (Nat × zE)) := [[(0, (.aload_n 0, 1, 0, 0, 0, [], [])), (1, (.getfield 21, 4, 0, 0, 0, [], [])), (4, (.getfield 33, 7, 0, 0, 0, [], [])), (7, (.getfield 89, 10, 0, 0, 0, [], [])), (10, (.iload_n 1, 11, 0, 0, 0, [], [])), (11, (.iaload, 12, 0, 0, 0, [], [])), (12, (.istore 4, 14, 0, 0, 0, [], [])), (14, (.aload_n 0, 15, 0, 0, 0, [], [])), (15, (.getfield 21, 18, 0, 0, 0, [], [])), (18, (.getfield 33, 21, 0, 0, 0, [], [])), (21, (.getfield 56, 24, 0, 0, 0, [], [])), (24, (.iload_n 1, 25, 0, 0, 0, [], [])), (25, (.iaload, 26, 0, 0, 0, [], [])), (26, (.istore 5, 28, 0, 0, 0, [], [])), (28, (.aload_n 0, 29, 0, 0, 0, [], [])), (29, (.getfield 21, 32, 0, 0, 0, [], []))],
  [(32, (.getfield 33, 35, 0, 0, 0, [], [])), (35, (.getfield 44, 38, 0, 0, 0, [], [])), (38, (.iload_n 1, 39, 0, 0, 0, [], [])), (39, (.iload_n 2, 40, 0, 0, 0, [], [])), (40, (.iastore, 41, 0, 0, 0, [], [])), (41, (.aload_n 0, 42, 0, 0, 0, [], [])), (42, (.getfield 21, 45, 0, 0, 0, [], [])), (45, (.iload_n 2, 46, 0, 0, 0, [], [])), (46, (.iload 5, 48, 0, 0, 0, [], [])), (48, (.invokevirtual 69, 51, 0, 0, 0, [], [])), (51, (.aload_n 0, 52, 0, 0, 0, [], [])), (52, (.getfield 21, 55, 0, 0, 0, [], [])), (55, (.invokevirtual 48, 58, 0, 0, 0, [], [])), (58, (.ifCond .eq 10, 61, 68, 0, 0, [], [])), (61, (.iconst 1, 62, 0, 1, 0, [], [])), (62, (.iload 4, 64, 0, 0, 0, [], []))],
  [(64, (.isub, 65, 0, 0, 0, [], [])), (65, (.goto 14, 68, 79, 0, 0, [], [])), (68, (.aload_n 0, 69, 0, 0, 0, [], [])), (69, (.iconst 1, 70, 0, 1, 0, [], [])), (70, (.iload 4, 72, 0, 0, 0, [], [])), (72, (.isub, 73, 0, 0, 0, [], [])), (73, (.iload_n 3, 74, 0, 0, 0, [], [])), (74, (.iconst 1, 75, 0, 1, 0, [], [])), (75, (.isub, 76, 0, 0, 0, [], [])), (76, (.invokevirtual 73, 79, 0, 0, 0, [], [])), (79, (.istore 6, 81, 0, 0, 0, [], [true, true, true, false, false, true, false])), (81, (.aload_n 0, 82, 0, 0, 0, [], [])), (82, (.getfield 21, 85, 0, 0, 0, [], [])), (85, (.iload_n 2, 86, 0, 0, 0, [], [])), (86, (.iload 5, 88, 0, 0, 0, [], [])), (88, (.ineg, 89, 0, 0, 0, [], [])), (89, (.invokevirtual 69, 92, 0, 0, 0, [], [])), (92, (.aload_n 0, 93, 0, 0, 0, [], [])), (93, (.getfield 21, 96, 0, 0, 0, [], []))],
  [(96, (.getfield 33, 99, 0, 0, 0, [], [])), (99, (.getfield 44, 102, 0, 0, 0, [], [])), (102, (.iload_n 1, 103, 0, 0, 0, [], [])), (103, (.bipush (-9), 105, 0, (-9), 0, [], [])), (105, (.iastore, 106, 0, 0, 0, [], [])), (106, (.iload 6, 108, 0, 0, 0, [], [])), (108, (.ireturn, 109, 0, 0, 0, [], []))]]
noncomputable abbrev zT_74 : zT := (9, zI_74, 1, 7) -- X9_valueBehind
noncomputable def zI_75 : List (List (Nat × zE)) := [[(0, (.iconst 0, 1, 0, 0, 0, [], [])), (1, (.istore 4, 3, 0, 0, 0, [], [])), (3, (.iload 4, 5, 0, 0, 0, [], [true, true, false, true, true])), (5, (.iload_n 3, 6, 0, 0, 0, [], [])), (6, (.if_icmp .ge 50, 9, 56, 0, 0, [], [])), (9, (.aload_n 0, 10, 0, 0, 0, [], [])), (10, (.getfield 15, 13, 0, 0, 0, [], [])), (13, (.sipush 200, 16, 0, 200, 0, [], [])), (16, (.if_icmp .ge 40, 19, 56, 0, 0, [], [])), (19, (.aload_n 0, 20, 0, 0, 0, [], [])), (20, (.getfield 9, 23, 0, 0, 0, [], [])), (23, (.aload_n 0, 24, 0, 0, 0, [], [])), (24, (.getfield 15, 27, 0, 0, 0, [], [])), (27, (.lload_n 1, 28, 0, 0, 0, [], [])), (28, (.bipush 8, 30, 0, 8, 0, [], [])), (30, (.iload 4, 32, 0, 0, 0, [], []))],
  [(32, (.imul, 33, 0, 0, 0, [], [])), (33, (.lushr, 34, 0, 0, 0, [], [])), (34, (.l2i, 35, 0, 0, 0, [], [])), (35, (.sipush 255, 38, 0, 255, 0, [], [])), (38, (.iand, 39, 0, 0, 0, [], [])), (39, (.iastore, 40, 0, 0, 0, [], [])), (40, (.aload_n 0, 41, 0, 0, 0, [], [])), (41, (.dup, 42, 0, 0, 0, [], [])), (42, (.getfield 15, 45, 0, 0, 0, [], [])), (45, (.iconst 1, 46, 0, 1, 0, [], [])), (46, (.iadd, 47, 0, 0, 0, [], [])), (47, (.putfield 15, 50, 0, 0, 0, [], [])), (50, (.iinc 4 1, 53, 0, 1, 0, [], [])), (53, (.goto (-50), 56, 3, 0, 0, [], [])), (56, (.return_, 57, 0, 0, 0, [], []))]]
noncomputable abbrev zT_75 : zT := (10, zI_75, 0, 5) -- X10_append
noncomputable def zI_76 : List (List (Nat × zE)) := [[(0, (.aload_n 0, 1, 0, 0, 0, [], [])), (1, (.getfield 9, 4, 0, 0, 0, [], [])), (4, (.iload_n 1, 5, 0, 0, 0, [], [])), (5, (.iaload, 6, 0, 0, 0, [], [])), (6, (.bipush 32, 8, 0, 32, 0, [], [])), (8, (.if_icmp .ne 7, 11, 15, 0, 0, [], [])), (11, (.iconst 1, 12, 0, 1, 0, [], [])), (12, (.goto 4, 15, 16, 0, 0, [], [])), (15, (.iconst 0, 16, 0, 0, 0, [], [])), (16, (.ireturn, 17, 0, 0, 0, [], []))]]
noncomputable abbrev zT_76 : zT := (10, zI_76, 3, 2) -- X10_isBlank
noncomputable def zI_77 : List (List (Nat × zE)) := [[(0, (.aload_n 0, 1, 0, 0, 0, [], [])), (1, (.getfield 9, 4, 0, 0, 0, [], [])), (4, (.iload_n 1, 5, 0, 0, 0, [], [])), (5, (.iaload, 6, 0, 0, 0, [], [])), (6, (.invokestatic 19, 9, 0, 0, 0, [], [])), (9, (.istore_n 2, 10, 0, 0, 0, [], [])), (10, (.iload_n 2, 11, 0, 0, 0, [], [])), (11, (.ifCond .ne 19, 14, 30, 0, 0, [], [])), (14, (.aload_n 0, 15, 0, 0, 0, [], [])), (15, (.getfield 9, 18, 0, 0, 0, [], [])), (18, (.iload_n 1, 19, 0, 0, 0, [], [])), (19, (.iaload, 20, 0, 0, 0, [], [])), (20, (.invokestatic 23, 23, 0, 0, 0, [], [])), (23, (.ifCond .ne 7, 26, 30, 0, 0, [], [])), (26, (.iload_n 1, 27, 0, 0, 0, [], [])), (27, (.iconst 1, 28, 0, 1, 0, [], [])), (28, (.iadd, 29, 0, 0, 0, [], [])), (29, (.ireturn, 30, 0, 0, 0, [], [])), (30, (.iload_n 1, 31, 0, 0, 0, [], [])), (31, (.iconst 1, 32, 0, 1, 0, [], []))],
  [(32, (.iadd, 33, 0, 0, 0, [], [])), (33, (.istore_n 3, 34, 0, 0, 0, [], [])), (34, (.iload_n 3, 35, 0, 0, 0, [], [true, false, true, true])), (35, (.aload_n 0, 36, 0, 0, 0, [], [])), (36, (.getfield 15, 39, 0, 0, 0, [], [])), (39, (.if_icmp .ge 42, 42, 81, 0, 0, [], [])), (42, (.iload_n 2, 43, 0, 0, 0, [], [])), (43, (.ifCond .eq 18, 46, 61, 0, 0, [], [])), (46, (.aload_n 0, 47, 0, 0, 0, [], [])), (47, (.getfield 9, 50, 0, 0, 0, [], [])), (50, (.iload_n 3, 51, 0, 0, 0, [], [])), (51, (.iaload, 52, 0, 0, 0, [], [])), (52, (.invokestatic 19, 55, 0, 0, 0, [], [])), (55, (.ifCond .ne 20, 58, 75, 0, 0, [], [])), (58, (.goto 15, 61, 73, 0, 0, [], [])), (61, (.aload_n 0, 62, 0, 0, 0, [], [])), (62, (.getfield 9, 65, 0, 0, 0, [], []))],
  [(65, (.iload_n 3, 66, 0, 0, 0, [], [])), (66, (.iaload, 67, 0, 0, 0, [], [])), (67, (.invokestatic 23, 70, 0, 0, 0, [], [])), (70, (.ifCond .ne 5, 73, 75, 0, 0, [], [])), (73, (.iload_n 3, 74, 0, 0, 0, [], [])), (74, (.ireturn, 75, 0, 0, 0, [], [])), (75, (.iinc 3 1, 78, 0, 1, 0, [], [])), (78, (.goto (-44), 81, 34, 0, 0, [], [])), (81, (.aload_n 0, 82, 0, 0, 0, [], [])), (82, (.getfield 15, 85, 0, 0, 0, [], [])), (85, (.ireturn, 86, 0, 0, 0, [], []))]]
noncomputable abbrev zT_77 : zT := (10, zI_77, 1, 4) -- X10_endOfWord
noncomputable def zI_78 : List (List (Nat × zE)) := [[(0, (.aload_n 0, 1, 0, 0, 0, [], [])), (1, (.getfield 9, 4, 0, 0, 0, [], [])), (4, (.iload_n 1, 5, 0, 0, 0, [], [])), (5, (.iaload, 6, 0, 0, 0, [], [])), (6, (.invokestatic 19, 9, 0, 0, 0, [], [])), (9, (.ifCond .eq 10, 12, 19, 0, 0, [], [])), (12, (.aload_n 0, 13, 0, 0, 0, [], [])), (13, (.iload_n 1, 14, 0, 0, 0, [], [])), (14, (.iload_n 2, 15, 0, 0, 0, [], [])), (15, (.invokevirtual 26, 18, 0, 0, 0, [], [])), (18, (.ireturn, 19, 0, 0, 0, [], [])), (19, (.aload_n 0, 20, 0, 0, 0, [], [])), (20, (.getfield 9, 23, 0, 0, 0, [], [])), (23, (.iload_n 1, 24, 0, 0, 0, [], [])), (24, (.iaload, 25, 0, 0, 0, [], [])), (25, (.invokestatic 23, 28, 0, 0, 0, [], [])), (28, (.ifCond .eq 10, 31, 38, 0, 0, [], [])), (31, (.aload_n 0, 32, 0, 0, 0, [], []))],
  [(32, (.iload_n 1, 33, 0, 0, 0, [], [])), (33, (.iload_n 2, 34, 0, 0, 0, [], [])), (34, (.invokevirtual 30, 37, 0, 0, 0, [], [])), (37, (.ireturn, 38, 0, 0, 0, [], [])), (38, (.aload_n 0, 39, 0, 0, 0, [], [])), (39, (.getfield 9, 42, 0, 0, 0, [], [])), (42, (.iload_n 1, 43, 0, 0, 0, [], [])), (43, (.iaload, 44, 0, 0, 0, [], [])), (44, (.lookupswitch 78 #[(40, 69), (41, 72), (59, 75), (60, 60), (61, 63), (62, 66)], 104, 122, 0, 0, [(40, 113), (41, 116), (59, 119), (60, 104), (61, 107), (62, 110)], []))],
  [],
  [(104, (.bipush (-6), 106, 0, (-6), 0, [], [])), (106, (.ireturn, 107, 0, 0, 0, [], [])), (107, (.bipush (-7), 109, 0, (-7), 0, [], [])), (109, (.ireturn, 110, 0, 0, 0, [], [])), (110, (.bipush (-8), 112, 0, (-8), 0, [], [])), (112, (.ireturn, 113, 0, 0, 0, [], [])), (113, (.bipush (-12), 115, 0, (-12), 0, [], [])), (115, (.ireturn, 116, 0, 0, 0, [], [])), (116, (.bipush (-13), 118, 0, (-13), 0, [], [])), (118, (.ireturn, 119, 0, 0, 0, [], [])), (119, (.bipush (-14), 121, 0, (-14), 0, [], [])), (121, (.ireturn, 122, 0, 0, 0, [], [])), (122, (.bipush (-30), 124, 0, (-30), 0, [], [])), (124, (.ireturn, 125, 0, 0, 0, [], []))]]
noncomputable abbrev zT_78 : zT := (10, zI_78, 1, 3) -- X10_word
noncomputable def zI_79 : List (List (Nat × zE)) := [[(0, (.iload_n 2, 1, 0, 0, 0, [], [])), (1, (.iload_n 1, 2, 0, 0, 0, [], [])), (2, (.isub, 3, 0, 0, 0, [], [])), (3, (.iconst 4, 4, 0, 4, 0, [], [])), (4, (.if_icmp .le 6, 7, 10, 0, 0, [], [])), (7, (.bipush (-30), 9, 0, (-30), 0, [], [])), (9, (.ireturn, 10, 0, 0, 0, [], [])), (10, (.iconst 0, 11, 0, 0, 0, [], [])), (11, (.istore_n 3, 12, 0, 0, 0, [], [])), (12, (.iload_n 1, 13, 0, 0, 0, [], [])), (13, (.istore 4, 15, 0, 0, 0, [], [])), (15, (.iload 4, 17, 0, 0, 0, [], [true, false, true, true, true])), (17, (.iload_n 2, 18, 0, 0, 0, [], [])), (18, (.if_icmp .ge 25, 21, 43, 0, 0, [], [])), (21, (.iload_n 3, 22, 0, 0, 0, [], [])), (22, (.bipush 10, 24, 0, 10, 0, [], [])), (24, (.imul, 25, 0, 0, 0, [], [])), (25, (.aload_n 0, 26, 0, 0, 0, [], [])), (26, (.getfield 9, 29, 0, 0, 0, [], [])), (29, (.iload 4, 31, 0, 0, 0, [], [])), (31, (.iaload, 32, 0, 0, 0, [], []))],
  [(32, (.bipush 48, 34, 0, 48, 0, [], [])), (34, (.isub, 35, 0, 0, 0, [], [])), (35, (.iadd, 36, 0, 0, 0, [], [])), (36, (.istore_n 3, 37, 0, 0, 0, [], [])), (37, (.iinc 4 1, 40, 0, 1, 0, [], [])), (40, (.goto (-25), 43, 15, 0, 0, [], [])), (43, (.iload_n 3, 44, 0, 0, 0, [], [])), (44, (.ireturn, 45, 0, 0, 0, [], []))]]
noncomputable abbrev zT_79 : zT := (10, zI_79, 1, 5) -- X10_numberWord
noncomputable def zI_80 : List (List (Nat × zE)) := [[(0, (.aload_n 0, 1, 0, 0, 0, [], [])), (1, (.ldc 33, 3, 0, 0, 0, [], [])), (3, (.iload_n 1, 4, 0, 0, 0, [], [])), (4, (.iload_n 2, 5, 0, 0, 0, [], [])), (5, (.invokevirtual 35, 8, 0, 0, 0, [], [])), (8, (.ifCond .eq 6, 11, 14, 0, 0, [], [])), (11, (.bipush (-20), 13, 0, (-20), 0, [], [])), (13, (.ireturn, 14, 0, 0, 0, [], [])), (14, (.aload_n 0, 15, 0, 0, 0, [], [])), (15, (.ldc 39, 17, 0, 0, 0, [], [])), (17, (.iload_n 1, 18, 0, 0, 0, [], [])), (18, (.iload_n 2, 19, 0, 0, 0, [], [])), (19, (.invokevirtual 35, 22, 0, 0, 0, [], [])), (22, (.ifCond .eq 6, 25, 28, 0, 0, [], [])), (25, (.bipush (-21), 27, 0, (-21), 0, [], [])), (27, (.ireturn, 28, 0, 0, 0, [], [])), (28, (.aload_n 0, 29, 0, 0, 0, [], [])), (29, (.ldc 41, 31, 0, 0, 0, [], [])), (31, (.iload_n 1, 32, 0, 0, 0, [], []))],
  [(32, (.iload_n 2, 33, 0, 0, 0, [], [])), (33, (.invokevirtual 35, 36, 0, 0, 0, [], [])), (36, (.ifCond .eq 6, 39, 42, 0, 0, [], [])), (39, (.bipush (-22), 41, 0, (-22), 0, [], [])), (41, (.ireturn, 42, 0, 0, 0, [], [])), (42, (.aload_n 0, 43, 0, 0, 0, [], [])), (43, (.ldc 43, 45, 0, 0, 0, [], [])), (45, (.iload_n 1, 46, 0, 0, 0, [], [])), (46, (.iload_n 2, 47, 0, 0, 0, [], [])), (47, (.invokevirtual 35, 50, 0, 0, 0, [], [])), (50, (.ifCond .eq 6, 53, 56, 0, 0, [], [])), (53, (.bipush (-23), 55, 0, (-23), 0, [], [])), (55, (.ireturn, 56, 0, 0, 0, [], [])), (56, (.aload_n 0, 57, 0, 0, 0, [], [])), (57, (.ldc 45, 59, 0, 0, 0, [], [])), (59, (.iload_n 1, 60, 0, 0, 0, [], [])), (60, (.iload_n 2, 61, 0, 0, 0, [], [])), (61, (.invokevirtual 35, 64, 0, 0, 0, [], []))],
  [(64, (.ifCond .eq 6, 67, 70, 0, 0, [], [])), (67, (.bipush (-24), 69, 0, (-24), 0, [], [])), (69, (.ireturn, 70, 0, 0, 0, [], [])), (70, (.aload_n 0, 71, 0, 0, 0, [], [])), (71, (.ldc 47, 73, 0, 0, 0, [], [])), (73, (.iload_n 1, 74, 0, 0, 0, [], [])), (74, (.iload_n 2, 75, 0, 0, 0, [], [])), (75, (.invokevirtual 35, 78, 0, 0, 0, [], [])), (78, (.ifCond .eq 6, 81, 84, 0, 0, [], [])), (81, (.bipush (-25), 83, 0, (-25), 0, [], [])), (83, (.ireturn, 84, 0, 0, 0, [], [])), (84, (.aload_n 0, 85, 0, 0, 0, [], [])), (85, (.ldc 49, 87, 0, 0, 0, [], [])), (87, (.iload_n 1, 88, 0, 0, 0, [], [])), (88, (.iload_n 2, 89, 0, 0, 0, [], [])), (89, (.invokevirtual 35, 92, 0, 0, 0, [], [])), (92, (.ifCond .eq 6, 95, 98, 0, 0, [], [])), (95, (.bipush (-16), 97, 0, (-16), 0, [], []))],
  [(97, (.ireturn, 98, 0, 0, 0, [], [])), (98, (.aload_n 0, 99, 0, 0, 0, [], [])), (99, (.ldc 51, 101, 0, 0, 0, [], [])), (101, (.iload_n 1, 102, 0, 0, 0, [], [])), (102, (.iload_n 2, 103, 0, 0, 0, [], [])), (103, (.invokevirtual 35, 106, 0, 0, 0, [], [])), (106, (.ifCond .eq 6, 109, 112, 0, 0, [], [])), (109, (.bipush (-17), 111, 0, (-17), 0, [], [])), (111, (.ireturn, 112, 0, 0, 0, [], [])), (112, (.aload_n 0, 113, 0, 0, 0, [], [])), (113, (.ldc 53, 115, 0, 0, 0, [], [])), (115, (.iload_n 1, 116, 0, 0, 0, [], [])), (116, (.iload_n 2, 117, 0, 0, 0, [], [])), (117, (.invokevirtual 35, 120, 0, 0, 0, [], [])), (120, (.ifCond .eq 6, 123, 126, 0, 0, [], [])), (123, (.bipush (-18), 125, 0, (-18), 0, [], [])), (125, (.ireturn, 126, 0, 0, 0, [], [])), (126, (.aload_n 0, 127, 0, 0, 0, [], [])), (127, (.ldc 55, 129, 0, 0, 0, [], []))],
  [(129, (.iload_n 1, 130, 0, 0, 0, [], [])), (130, (.iload_n 2, 131, 0, 0, 0, [], [])), (131, (.invokevirtual 35, 134, 0, 0, 0, [], [])), (134, (.ifCond .eq 6, 137, 140, 0, 0, [], [])), (137, (.bipush (-15), 139, 0, (-15), 0, [], [])), (139, (.ireturn, 140, 0, 0, 0, [], [])), (140, (.aload_n 0, 141, 0, 0, 0, [], [])), (141, (.ldc 57, 143, 0, 0, 0, [], [])), (143, (.iload_n 1, 144, 0, 0, 0, [], [])), (144, (.iload_n 2, 145, 0, 0, 0, [], [])), (145, (.invokevirtual 35, 148, 0, 0, 0, [], [])), (148, (.ifCond .eq 6, 151, 154, 0, 0, [], [])), (151, (.bipush (-9), 153, 0, (-9), 0, [], [])), (153, (.ireturn, 154, 0, 0, 0, [], [])), (154, (.aload_n 0, 155, 0, 0, 0, [], [])), (155, (.ldc 59, 157, 0, 0, 0, [], [])), (157, (.iload_n 1, 158, 0, 0, 0, [], [])), (158, (.iload_n 2, 159, 0, 0, 0, [], [])), (159, (.invokevirtual 35, 162, 0, 0, 0, [], []))],
  [(162, (.ifCond .eq 6, 165, 168, 0, 0, [], [])), (165, (.bipush (-10), 167, 0, (-10), 0, [], [])), (167, (.ireturn, 168, 0, 0, 0, [], [])), (168, (.aload_n 0, 169, 0, 0, 0, [], [])), (169, (.ldc 61, 171, 0, 0, 0, [], [])), (171, (.iload_n 1, 172, 0, 0, 0, [], [])), (172, (.iload_n 2, 173, 0, 0, 0, [], [])), (173, (.invokevirtual 35, 176, 0, 0, 0, [], [])), (176, (.ifCond .eq 6, 179, 182, 0, 0, [], [])), (179, (.bipush (-11), 181, 0, (-11), 0, [], [])), (181, (.ireturn, 182, 0, 0, 0, [], [])), (182, (.aload_n 0, 183, 0, 0, 0, [], [])), (183, (.ldc 63, 185, 0, 0, 0, [], [])), (185, (.iload_n 1, 186, 0, 0, 0, [], [])), (186, (.iload_n 2, 187, 0, 0, 0, [], [])), (187, (.invokevirtual 35, 190, 0, 0, 0, [], [])), (190, (.ifCond .eq 5, 193, 195, 0, 0, [], []))],
  [(193, (.iconst (-1), 194, 0, (-1), 0, [], [])), (194, (.ireturn, 195, 0, 0, 0, [], [])), (195, (.aload_n 0, 196, 0, 0, 0, [], [])), (196, (.ldc 65, 198, 0, 0, 0, [], [])), (198, (.iload_n 1, 199, 0, 0, 0, [], [])), (199, (.iload_n 2, 200, 0, 0, 0, [], [])), (200, (.invokevirtual 35, 203, 0, 0, 0, [], [])), (203, (.ifCond .eq 6, 206, 209, 0, 0, [], [])), (206, (.bipush (-2), 208, 0, (-2), 0, [], [])), (208, (.ireturn, 209, 0, 0, 0, [], [])), (209, (.aload_n 0, 210, 0, 0, 0, [], [])), (210, (.ldc 67, 212, 0, 0, 0, [], [])), (212, (.iload_n 1, 213, 0, 0, 0, [], [])), (213, (.iload_n 2, 214, 0, 0, 0, [], [])), (214, (.invokevirtual 35, 217, 0, 0, 0, [], [])), (217, (.ifCond .eq 6, 220, 223, 0, 0, [], [])), (220, (.bipush (-3), 222, 0, (-3), 0, [], [])), (222, (.ireturn, 223, 0, 0, 0, [], [])), (223, (.aload_n 0, 224, 0, 0, 0, [], []))],
  [(224, (.ldc 69, 226, 0, 0, 0, [], [])), (226, (.iload_n 1, 227, 0, 0, 0, [], [])), (227, (.iload_n 2, 228, 0, 0, 0, [], [])), (228, (.invokevirtual 35, 231, 0, 0, 0, [], [])), (231, (.ifCond .eq 6, 234, 237, 0, 0, [], [])), (234, (.bipush (-4), 236, 0, (-4), 0, [], [])), (236, (.ireturn, 237, 0, 0, 0, [], [])), (237, (.aload_n 0, 238, 0, 0, 0, [], [])), (238, (.ldc 71, 240, 0, 0, 0, [], [])), (240, (.iload_n 1, 241, 0, 0, 0, [], [])), (241, (.iload_n 2, 242, 0, 0, 0, [], [])), (242, (.invokevirtual 35, 245, 0, 0, 0, [], [])), (245, (.ifCond .eq 6, 248, 251, 0, 0, [], [])), (248, (.bipush (-5), 250, 0, (-5), 0, [], [])), (250, (.ireturn, 251, 0, 0, 0, [], [])), (251, (.bipush (-30), 253, 0, (-30), 0, [], [])), (253, (.ireturn, 254, 0, 0, 0, [], []))]]
noncomputable abbrev zT_80 : zT := (10, zI_80, 1, 3) -- X10_nameWord
noncomputable def zI_81 : List (List (Nat × zE)) := [[(0, (.iload_n 3, 1, 0, 0, 0, [], [])), (1, (.iload_n 2, 2, 0, 0, 0, [], [])), (2, (.isub, 3, 0, 0, 0, [], [])), (3, (.aload_n 1, 4, 0, 0, 0, [], [])), (4, (.invokevirtual 73, 7, 0, 0, 0, [], [])), (7, (.if_icmp .eq 5, 10, 12, 0, 0, [], [])), (10, (.iconst 0, 11, 0, 0, 0, [], [])), (11, (.ireturn, 12, 0, 0, 0, [], [])), (12, (.iload_n 2, 13, 0, 0, 0, [], [])), (13, (.istore 4, 15, 0, 0, 0, [], [])), (15, (.iload 4, 17, 0, 0, 0, [], [true, true, true, true, true])), (17, (.iload_n 3, 18, 0, 0, 0, [], [])), (18, (.if_icmp .ge 29, 21, 47, 0, 0, [], [])), (21, (.aload_n 0, 22, 0, 0, 0, [], [])), (22, (.getfield 9, 25, 0, 0, 0, [], [])), (25, (.iload 4, 27, 0, 0, 0, [], [])), (27, (.iaload, 28, 0, 0, 0, [], [])), (28, (.aload_n 1, 29, 0, 0, 0, [], [])), (29, (.iload 4, 31, 0, 0, 0, [], [])), (31, (.iload_n 2, 32, 0, 0, 0, [], []))],
  [(32, (.isub, 33, 0, 0, 0, [], [])), (33, (.invokevirtual 79, 36, 0, 0, 0, [], [])), (36, (.if_icmp .eq 5, 39, 41, 0, 0, [], [])), (39, (.iconst 0, 40, 0, 0, 0, [], [])), (40, (.ireturn, 41, 0, 0, 0, [], [])), (41, (.iinc 4 1, 44, 0, 1, 0, [], [])), (44, (.goto (-29), 47, 15, 0, 0, [], [])), (47, (.iconst 1, 48, 0, 1, 0, [], [])), (48, (.ireturn, 49, 0, 0, 0, [], []))]]
noncomputable abbrev zT_81 : zT := (10, zI_81, 3, 5) -- X10_isName
noncomputable def zI_82 : List (List (Nat × zE)) := [[(0, (.iload_n 0, 1, 0, 0, 0, [], [])), (1, (.bipush 97, 3, 0, 97, 0, [], [])), (3, (.if_icmp .lt 13, 6, 16, 0, 0, [], [])), (6, (.iload_n 0, 7, 0, 0, 0, [], [])), (7, (.bipush 122, 9, 0, 122, 0, [], [])), (9, (.if_icmp .gt 7, 12, 16, 0, 0, [], [])), (12, (.iconst 1, 13, 0, 1, 0, [], [])), (13, (.goto 4, 16, 17, 0, 0, [], [])), (16, (.iconst 0, 17, 0, 0, 0, [], [])), (17, (.ireturn, 18, 0, 0, 0, [], []))]]
noncomputable abbrev zT_82 : zT := (10, zI_82, 3, 1) -- X10_isLetter
noncomputable def zI_83 : List (List (Nat × zE)) := [[(0, (.iload_n 0, 1, 0, 0, 0, [], [])), (1, (.bipush 48, 3, 0, 48, 0, [], [])), (3, (.if_icmp .lt 13, 6, 16, 0, 0, [], [])), (6, (.iload_n 0, 7, 0, 0, 0, [], [])), (7, (.bipush 57, 9, 0, 57, 0, [], [])), (9, (.if_icmp .gt 7, 12, 16, 0, 0, [], [])), (12, (.iconst 1, 13, 0, 1, 0, [], [])), (13, (.goto 4, 16, 17, 0, 0, [], [])), (16, (.iconst 0, 17, 0, 0, 0, [], [])), (17, (.ireturn, 18, 0, 0, 0, [], []))]]
noncomputable abbrev zT_83 : zT := (10, zI_83, 3, 1) -- X10_isDigit
noncomputable def zI_84 : List (List (Nat × zE)) := [[(0, (.iload_n 2, 1, 0, 0, 0, [], [])), (1, (.iconst (-1), 2, 0, (-1), 0, [], [])), (2, (.if_icmp .ne 7, 5, 9, 0, 0, [], [])), (5, (.iconst 1, 6, 0, 1, 0, [], [])), (6, (.goto 4, 9, 10, 0, 0, [], [])), (9, (.iconst 0, 10, 0, 0, 0, [], [])), (10, (.istore 5, 12, 0, 0, 0, [], [true, true, true, true, true, false])), (12, (.iload_n 1, 13, 0, 0, 0, [], [])), (13, (.invokestatic 64, 16, 0, 0, 0, [], [])), (16, (.ifCond .eq 22, 19, 38, 0, 0, [], [])), (19, (.iload 5, 21, 0, 0, 0, [], [])), (21, (.ifCond .ne 19, 24, 40, 0, 0, [], [])), (24, (.aload_n 0, 25, 0, 0, 0, [], [])), (25, (.getfield 10, 28, 0, 0, 0, [], [])), (28, (.getfield 68, 31, 0, 0, 0, [], [])), (31, (.iload_n 2, 32, 0, 0, 0, [], []))],
  [(32, (.invokevirtual 72, 35, 0, 0, 0, [], [])), (35, (.ifCond .ne 5, 38, 40, 0, 0, [], [])), (38, (.iconst (-1), 39, 0, (-1), 0, [], [])), (39, (.ireturn, 40, 0, 0, 0, [], [])), (40, (.iload_n 3, 41, 0, 0, 0, [], [true, true, true, true, true, true])), (41, (.iconst 1, 42, 0, 1, 0, [], [])), (42, (.bipush 9, 44, 0, 9, 0, [], [])), (44, (.invokestatic 77, 47, 0, 0, 0, [], [])), (47, (.ifCond .eq 15, 50, 62, 0, 0, [], [])), (50, (.iload 4, 52, 0, 0, 0, [], [])), (52, (.iconst 1, 53, 0, 1, 0, [], [])), (53, (.sipush 999, 56, 0, 999, 0, [], [])), (56, (.invokestatic 77, 59, 0, 0, 0, [], [])), (59, (.ifCond .ne 5, 62, 64, 0, 0, [], [])), (62, (.iconst (-1), 63, 0, (-1), 0, [], [])), (63, (.ireturn, 64, 0, 0, 0, [], []))],
  [(64, (.aload_n 0, 65, 0, 0, 0, [], [])), (65, (.getfield 10, 68, 0, 0, 0, [], [])), (68, (.getfield 68, 71, 0, 0, 0, [], [])), (71, (.getfield 81, 74, 0, 0, 0, [], [])), (74, (.bipush 9, 76, 0, 9, 0, [], [])), (76, (.if_icmp .lt 6, 79, 82, 0, 0, [], [])), (79, (.bipush (-2), 81, 0, (-2), 0, [], [])), (81, (.ireturn, 82, 0, 0, 0, [], [])), (82, (.iload 5, 84, 0, 0, 0, [], [])), (84, (.ifCond .ne 20, 87, 104, 0, 0, [], [])), (87, (.aload_n 0, 88, 0, 0, 0, [], [])), (88, (.getfield 10, 91, 0, 0, 0, [], [])), (91, (.getfield 68, 94, 0, 0, 0, [], [])), (94, (.iload_n 2, 95, 0, 0, 0, [], [])), (95, (.invokevirtual 85, 98, 0, 0, 0, [], []))],
  [(98, (.ifCond .ne 6, 101, 104, 0, 0, [], [])), (101, (.bipush (-4), 103, 0, (-4), 0, [], [])), (103, (.ireturn, 104, 0, 0, 0, [], [])), (104, (.aload_n 0, 105, 0, 0, 0, [], [])), (105, (.getfield 10, 108, 0, 0, 0, [], [])), (108, (.getfield 68, 111, 0, 0, 0, [], [])), (111, (.iload_n 1, 112, 0, 0, 0, [], [])), (112, (.iload 5, 114, 0, 0, 0, [], [])), (114, (.ifCond .eq 8, 117, 122, 0, 0, [], [])), (117, (.bipush (-9), 119, 0, (-9), 0, [], [])), (119, (.goto 4, 122, 123, 0, 0, [], [])), (122, (.iload_n 2, 123, 0, 0, 0, [], [])), (123, (.iload_n 3, 124, 0, 0, 0, [], [])), (124, (.iload 4, 126, 0, 0, 0, [], [])), (126, (.invokevirtual 88, 129, 0, 0, 0, [], []))],
  [(129, (.ireturn, 130, 0, 0, 0, [], []))]]
noncomputable abbrev zT_84 : zT := (11, zI_84, 1, 6) -- X11_bough
noncomputable def zI_85 : List (List (Nat × zE)) := [[(0, (.aload_n 0, 1, 0, 0, 0, [], [])), (1, (.getfield 10, 4, 0, 0, 0, [], [])), (4, (.getfield 68, 7, 0, 0, 0, [], [])), (7, (.iload_n 1, 8, 0, 0, 0, [], [])), (8, (.invokevirtual 72, 11, 0, 0, 0, [], [])), (11, (.ifCond .ne 5, 14, 16, 0, 0, [], [])), (14, (.iconst (-1), 15, 0, (-1), 0, [], [])), (15, (.ireturn, 16, 0, 0, 0, [], [])), (16, (.iload_n 2, 17, 0, 0, 0, [], [])), (17, (.tableswitch 125 0 6 #[43, 56, 69, 82, 95, 107, 116], 60, 142, 0, 0, [(0, 60), (1, 73), (2, 86), (3, 99), (4, 112), (5, 124), (6, 133)], []))],
  [(60, (.aload_n 0, 61, 0, 0, 0, [], [])), (61, (.getfield 10, 64, 0, 0, 0, [], []))],
  [(64, (.getfield 68, 67, 0, 0, 0, [], [])), (67, (.getfield 92, 70, 0, 0, 0, [], [])), (70, (.iload_n 1, 71, 0, 0, 0, [], [])), (71, (.iaload, 72, 0, 0, 0, [], [])), (72, (.ireturn, 73, 0, 0, 0, [], [])), (73, (.aload_n 0, 74, 0, 0, 0, [], [])), (74, (.getfield 10, 77, 0, 0, 0, [], [])), (77, (.getfield 68, 80, 0, 0, 0, [], [])), (80, (.getfield 96, 83, 0, 0, 0, [], [])), (83, (.iload_n 1, 84, 0, 0, 0, [], [])), (84, (.iaload, 85, 0, 0, 0, [], [])), (85, (.ireturn, 86, 0, 0, 0, [], [])), (86, (.aload_n 0, 87, 0, 0, 0, [], [])), (87, (.getfield 10, 90, 0, 0, 0, [], [])), (90, (.getfield 68, 93, 0, 0, 0, [], [])), (93, (.getfield 99, 96, 0, 0, 0, [], []))],
  [(96, (.iload_n 1, 97, 0, 0, 0, [], [])), (97, (.iaload, 98, 0, 0, 0, [], [])), (98, (.ireturn, 99, 0, 0, 0, [], [])), (99, (.aload_n 0, 100, 0, 0, 0, [], [])), (100, (.getfield 10, 103, 0, 0, 0, [], [])), (103, (.getfield 68, 106, 0, 0, 0, [], [])), (106, (.getfield 102, 109, 0, 0, 0, [], [])), (109, (.iload_n 1, 110, 0, 0, 0, [], [])), (110, (.iaload, 111, 0, 0, 0, [], [])), (111, (.ireturn, 112, 0, 0, 0, [], [])), (112, (.aload_n 0, 113, 0, 0, 0, [], [])), (113, (.getfield 10, 116, 0, 0, 0, [], [])), (116, (.getfield 68, 119, 0, 0, 0, [], [])), (119, (.iload_n 1, 120, 0, 0, 0, [], [])), (120, (.invokevirtual 105, 123, 0, 0, 0, [], [])), (123, (.ireturn, 124, 0, 0, 0, [], [])), (124, (.aload_n 0, 125, 0, 0, 0, [], [])), (125, (.getfield 10, 128, 0, 0, 0, [], []))],
  [(128, (.iload_n 1, 129, 0, 0, 0, [], [])), (129, (.invokevirtual 109, 132, 0, 0, 0, [], [])), (132, (.ireturn, 133, 0, 0, 0, [], [])), (133, (.aload_n 0, 134, 0, 0, 0, [], [])), (134, (.getfield 10, 137, 0, 0, 0, [], [])), (137, (.iload_n 1, 138, 0, 0, 0, [], [])), (138, (.invokevirtual 112, 141, 0, 0, 0, [], [])), (141, (.ireturn, 142, 0, 0, 0, [], [])), (142, (.iconst (-1), 143, 0, (-1), 0, [], [])), (143, (.ireturn, 144, 0, 0, 0, [], []))]]
noncomputable abbrev zT_85 : zT := (11, zI_85, 1, 3) -- X11_boughOf
noncomputable def zI_86 : List (List (Nat × zE)) := [[(0, (.aload_n 0, 1, 0, 0, 0, [], [])), (1, (.getfield 10, 4, 0, 0, 0, [], [])), (4, (.getfield 68, 7, 0, 0, 0, [], [])), (7, (.iload_n 1, 8, 0, 0, 0, [], [])), (8, (.invokevirtual 72, 11, 0, 0, 0, [], [])), (11, (.ifCond .ne 5, 14, 16, 0, 0, [], [])), (14, (.iconst (-1), 15, 0, (-1), 0, [], [])), (15, (.ireturn, 16, 0, 0, 0, [], [])), (16, (.iload_n 2, 17, 0, 0, 0, [], [])), (17, (.iconst 2, 18, 0, 2, 0, [], [])), (18, (.if_icmp .ne 29, 21, 47, 0, 0, [], [])), (21, (.iload_n 3, 22, 0, 0, 0, [], [])), (22, (.iconst 1, 23, 0, 1, 0, [], [])), (23, (.bipush 9, 25, 0, 9, 0, [], [])), (25, (.invokestatic 77, 28, 0, 0, 0, [], [])), (28, (.ifCond .eq 19, 31, 47, 0, 0, [], [])), (31, (.aload_n 0, 32, 0, 0, 0, [], []))],
  [(32, (.getfield 10, 35, 0, 0, 0, [], [])), (35, (.getfield 68, 38, 0, 0, 0, [], [])), (38, (.getfield 99, 41, 0, 0, 0, [], [])), (41, (.iload_n 1, 42, 0, 0, 0, [], [])), (42, (.iload_n 3, 43, 0, 0, 0, [], [])), (43, (.invokestatic 115, 46, 0, 0, 0, [], [])), (46, (.ireturn, 47, 0, 0, 0, [], [])), (47, (.iload_n 2, 48, 0, 0, 0, [], [true, true, true, true])), (48, (.iconst 3, 49, 0, 3, 0, [], [])), (49, (.if_icmp .ne 30, 52, 79, 0, 0, [], [])), (52, (.iload_n 3, 53, 0, 0, 0, [], [])), (53, (.iconst 1, 54, 0, 1, 0, [], [])), (54, (.sipush 999, 57, 0, 999, 0, [], [])), (57, (.invokestatic 77, 60, 0, 0, 0, [], [])), (60, (.ifCond .eq 19, 63, 79, 0, 0, [], [])), (63, (.aload_n 0, 64, 0, 0, 0, [], []))],
  [(64, (.getfield 10, 67, 0, 0, 0, [], [])), (67, (.getfield 68, 70, 0, 0, 0, [], [])), (70, (.getfield 102, 73, 0, 0, 0, [], [])), (73, (.iload_n 1, 74, 0, 0, 0, [], [])), (74, (.iload_n 3, 75, 0, 0, 0, [], [])), (75, (.invokestatic 115, 78, 0, 0, 0, [], [])), (78, (.ireturn, 79, 0, 0, 0, [], [])), (79, (.iconst (-1), 80, 0, (-1), 0, [], [])), (80, (.ireturn, 81, 0, 0, 0, [], []))]]
noncomputable abbrev zT_86 : zT := (11, zI_86, 1, 4) -- X11_change
noncomputable def zI_87 : List (List (Nat × zE)) := [[(0, (.aload_n 0, 1, 0, 0, 0, [], [])), (1, (.getfield 10, 4, 0, 0, 0, [], [])), (4, (.getfield 68, 7, 0, 0, 0, [], [])), (7, (.iload_n 1, 8, 0, 0, 0, [], [])), (8, (.invokevirtual 72, 11, 0, 0, 0, [], [])), (11, (.ifCond .eq 10, 14, 21, 0, 0, [], [])), (14, (.iload_n 2, 15, 0, 0, 0, [], [])), (15, (.invokestatic 64, 18, 0, 0, 0, [], [])), (18, (.ifCond .ne 5, 21, 23, 0, 0, [], [])), (21, (.iconst (-1), 22, 0, (-1), 0, [], [])), (22, (.ireturn, 23, 0, 0, 0, [], [])), (23, (.aload_n 0, 24, 0, 0, 0, [], [])), (24, (.getfield 10, 27, 0, 0, 0, [], [])), (27, (.getfield 68, 30, 0, 0, 0, [], [])), (30, (.getfield 92, 33, 0, 0, 0, [], []))],
  [(33, (.iload_n 1, 34, 0, 0, 0, [], [])), (34, (.iload_n 2, 35, 0, 0, 0, [], [])), (35, (.invokestatic 115, 38, 0, 0, 0, [], [])), (38, (.ireturn, 39, 0, 0, 0, [], []))]]
noncomputable abbrev zT_87 : zT := (11, zI_87, 1, 3) -- X11_graft
noncomputable def zI_88 : List (List (Nat × zE)) := [[(0, (.iload_n 1, 1, 0, 0, 0, [], [])), (1, (.iconst 0, 2, 0, 0, 0, [], [])), (2, (.iconst 1, 3, 0, 1, 0, [], [])), (3, (.invokestatic 77, 6, 0, 0, 0, [], [])), (6, (.ifCond .eq 13, 9, 19, 0, 0, [], [])), (9, (.iload_n 2, 10, 0, 0, 0, [], [])), (10, (.iconst 0, 11, 0, 0, 0, [], [])), (11, (.bipush 9, 13, 0, 9, 0, [], [])), (13, (.invokestatic 77, 16, 0, 0, 0, [], [])), (16, (.ifCond .ne 5, 19, 21, 0, 0, [], [])), (19, (.iconst (-1), 20, 0, (-1), 0, [], [])), (20, (.ireturn, 21, 0, 0, 0, [], [])), (21, (.iload_n 1, 22, 0, 0, 0, [], [])), (22, (.ifCond .ne 16, 25, 38, 0, 0, [], [])), (25, (.aload_n 0, 26, 0, 0, 0, [], [])), (26, (.getfield 10, 29, 0, 0, 0, [], [])), (29, (.getfield 68, 32, 0, 0, 0, [], []))],
  [(32, (.getfield 119, 35, 0, 0, 0, [], [])), (35, (.goto 13, 38, 48, 0, 0, [], [])), (38, (.aload_n 0, 39, 0, 0, 0, [], [])), (39, (.getfield 10, 42, 0, 0, 0, [], [])), (42, (.getfield 68, 45, 0, 0, 0, [], [])), (45, (.getfield 122, 48, 0, 0, 0, [], [])), (48, (.istore_n 3, 49, 0, 0, 0, [], [true, true, true, false])), (49, (.iload_n 1, 50, 0, 0, 0, [], [])), (50, (.ifCond .ne 17, 53, 67, 0, 0, [], [])), (53, (.aload_n 0, 54, 0, 0, 0, [], [])), (54, (.getfield 10, 57, 0, 0, 0, [], [])), (57, (.getfield 68, 60, 0, 0, 0, [], [])), (60, (.iload_n 2, 61, 0, 0, 0, [], [])), (61, (.putfield 119, 64, 0, 0, 0, [], []))],
  [(64, (.goto 14, 67, 78, 0, 0, [], [])), (67, (.aload_n 0, 68, 0, 0, 0, [], [])), (68, (.getfield 10, 71, 0, 0, 0, [], [])), (71, (.getfield 68, 74, 0, 0, 0, [], [])), (74, (.iload_n 2, 75, 0, 0, 0, [], [])), (75, (.putfield 122, 78, 0, 0, 0, [], [])), (78, (.iload_n 3, 79, 0, 0, 0, [], [])), (79, (.ireturn, 80, 0, 0, 0, [], []))]]
noncomputable abbrev zT_88 : zT := (11, zI_88, 1, 4) -- X11_weather
noncomputable def zI_89 : List (List (Nat × zE)) := [[(0, (.iload_n 3, 1, 0, 0, 0, [], [])), (1, (.iconst 1, 2, 0, 1, 0, [], [])), (2, (.bipush 8, 4, 0, 8, 0, [], [])), (4, (.invokestatic 77, 7, 0, 0, 0, [], [])), (7, (.ifCond .ne 5, 10, 12, 0, 0, [], [])), (10, (.iconst (-1), 11, 0, (-1), 0, [], [])), (11, (.ireturn, 12, 0, 0, 0, [], [])), (12, (.aload_n 0, 13, 0, 0, 0, [], [])), (13, (.getfield 25, 16, 0, 0, 0, [], [])), (16, (.getfield 125, 19, 0, 0, 0, [], [])), (19, (.iload_n 3, 20, 0, 0, 0, [], [])), (20, (.iadd, 21, 0, 0, 0, [], [])), (21, (.sipush 200, 24, 0, 200, 0, [], [])), (24, (.if_icmp .le 6, 27, 30, 0, 0, [], [])), (27, (.bipush (-2), 29, 0, (-2), 0, [], [])), (29, (.ireturn, 30, 0, 0, 0, [], [])), (30, (.aload_n 0, 31, 0, 0, 0, [], [])), (31, (.getfield 25, 34, 0, 0, 0, [], []))],
  [(34, (.lload_n 1, 35, 0, 0, 0, [], [])), (35, (.iload_n 3, 36, 0, 0, 0, [], [])), (36, (.invokevirtual 126, 39, 0, 0, 0, [], [])), (39, (.aload_n 0, 40, 0, 0, 0, [], [])), (40, (.getfield 25, 43, 0, 0, 0, [], [])), (43, (.getfield 125, 46, 0, 0, 0, [], [])), (46, (.ireturn, 47, 0, 0, 0, [], []))]]
noncomputable abbrev zT_89 : zT := (11, zI_89, 1, 4) -- X11_feed
noncomputable def zI_90 : List (List (Nat × zE)) := [[(0, (.aload_n 0, 1, 0, 0, 0, [], [])), (1, (.getfield 32, 4, 0, 0, 0, [], [])), (4, (.aload_n 0, 5, 0, 0, 0, [], [])), (5, (.getfield 25, 8, 0, 0, 0, [], [])), (8, (.invokevirtual 130, 11, 0, 0, 0, [], [])), (11, (.istore_n 1, 12, 0, 0, 0, [], [])), (12, (.aload_n 0, 13, 0, 0, 0, [], [])), (13, (.getfield 25, 16, 0, 0, 0, [], [])), (16, (.iconst 0, 17, 0, 0, 0, [], [])), (17, (.putfield 125, 20, 0, 0, 0, [], [])), (20, (.iload_n 1, 21, 0, 0, 0, [], [])), (21, (.ifCond .lt 8, 24, 29, 0, 0, [], [])), (24, (.bipush (-100), 26, 0, (-100), 0, [], [])), (26, (.iload_n 1, 27, 0, 0, 0, [], [])), (27, (.isub, 28, 0, 0, 0, [], [])), (28, (.ireturn, 29, 0, 0, 0, [], [])), (29, (.aload_n 0, 30, 0, 0, 0, [], [])), (30, (.getfield 10, 33, 0, 0, 0, [], []))],
  [(33, (.getfield 68, 36, 0, 0, 0, [], [])), (36, (.getfield 134, 39, 0, 0, 0, [], [])), (39, (.aload_n 0, 40, 0, 0, 0, [], [])), (40, (.getfield 32, 43, 0, 0, 0, [], [])), (43, (.getfield 138, 46, 0, 0, 0, [], [])), (46, (.invokevirtual 139, 49, 0, 0, 0, [], [])), (49, (.aload_n 0, 50, 0, 0, 0, [], [])), (50, (.getfield 10, 53, 0, 0, 0, [], [])), (53, (.getfield 68, 56, 0, 0, 0, [], [])), (56, (.getfield 134, 59, 0, 0, 0, [], [])), (59, (.getfield 145, 62, 0, 0, 0, [], [])), (62, (.ireturn, 63, 0, 0, 0, [], []))]]
noncomputable abbrev zT_90 : zT := (11, zI_90, 1, 2) -- X11_rules
noncomputable def zI_91 : List (List (Nat × zE)) := [[(0, (.iload_n 1, 1, 0, 0, 0, [], [])), (1, (.iconst 1, 2, 0, 1, 0, [], [])), (2, (.sipush 200, 5, 0, 200, 0, [], [])), (5, (.invokestatic 77, 8, 0, 0, 0, [], [])), (8, (.ifCond .eq 10, 11, 18, 0, 0, [], [])), (11, (.iload_n 2, 12, 0, 0, 0, [], [])), (12, (.invokestatic 146, 15, 0, 0, 0, [], [])), (15, (.ifCond .ne 5, 18, 20, 0, 0, [], [])), (18, (.iconst (-1), 19, 0, (-1), 0, [], [])), (19, (.ireturn, 20, 0, 0, 0, [], [])), (20, (.aload_n 0, 21, 0, 0, 0, [], [])), (21, (.getfield 10, 24, 0, 0, 0, [], [])), (24, (.getfield 149, 27, 0, 0, 0, [], [])), (27, (.getfield 153, 30, 0, 0, 0, [], [])), (30, (.bipush 8, 32, 0, 8, 0, [], []))],
  [(32, (.if_icmp .lt 6, 35, 38, 0, 0, [], [])), (35, (.bipush (-2), 37, 0, (-2), 0, [], [])), (37, (.ireturn, 38, 0, 0, 0, [], [])), (38, (.aload_n 0, 39, 0, 0, 0, [], [])), (39, (.getfield 10, 42, 0, 0, 0, [], [])), (42, (.getfield 149, 45, 0, 0, 0, [], [])), (45, (.iload_n 1, 46, 0, 0, 0, [], [])), (46, (.iload_n 2, 47, 0, 0, 0, [], [])), (47, (.invokevirtual 156, 50, 0, 0, 0, [], [])), (50, (.ireturn, 51, 0, 0, 0, [], []))]]
noncomputable abbrev zT_91 : zT := (11, zI_91, 1, 3) -- X11_person
noncomputable def zI_92 : List (List (Nat × zE)) := [[(0, (.aload_n 0, 1, 0, 0, 0, [], [])), (1, (.getfield 10, 4, 0, 0, 0, [], [])), (4, (.getfield 149, 7, 0, 0, 0, [], [])), (7, (.iload_n 1, 8, 0, 0, 0, [], [])), (8, (.invokevirtual 160, 11, 0, 0, 0, [], [])), (11, (.ifCond .ne 5, 14, 16, 0, 0, [], [])), (14, (.iconst (-1), 15, 0, (-1), 0, [], [])), (15, (.ireturn, 16, 0, 0, 0, [], [])), (16, (.iload_n 2, 17, 0, 0, 0, [], [])), (17, (.tableswitch 66 0 2 #[27, 40, 53], 44, 83, 0, 0, [(0, 44), (1, 57), (2, 70)], []))],
  [(44, (.aload_n 0, 45, 0, 0, 0, [], [])), (45, (.getfield 10, 48, 0, 0, 0, [], [])), (48, (.getfield 149, 51, 0, 0, 0, [], [])), (51, (.getfield 161, 54, 0, 0, 0, [], [])), (54, (.iload_n 1, 55, 0, 0, 0, [], [])), (55, (.iaload, 56, 0, 0, 0, [], [])), (56, (.ireturn, 57, 0, 0, 0, [], [])), (57, (.aload_n 0, 58, 0, 0, 0, [], [])), (58, (.getfield 10, 61, 0, 0, 0, [], [])), (61, (.getfield 149, 64, 0, 0, 0, [], []))],
  [(64, (.getfield 164, 67, 0, 0, 0, [], [])), (67, (.iload_n 1, 68, 0, 0, 0, [], [])), (68, (.iaload, 69, 0, 0, 0, [], [])), (69, (.ireturn, 70, 0, 0, 0, [], [])), (70, (.aload_n 0, 71, 0, 0, 0, [], [])), (71, (.getfield 10, 74, 0, 0, 0, [], [])), (74, (.getfield 149, 77, 0, 0, 0, [], [])), (77, (.getfield 167, 80, 0, 0, 0, [], [])), (80, (.iload_n 1, 81, 0, 0, 0, [], [])), (81, (.iaload, 82, 0, 0, 0, [], [])), (82, (.ireturn, 83, 0, 0, 0, [], [])), (83, (.iconst (-1), 84, 0, (-1), 0, [], [])), (84, (.ireturn, 85, 0, 0, 0, [], []))]]
noncomputable abbrev zT_92 : zT := (11, zI_92, 1, 3) -- X11_personOf
noncomputable def zI_93 : List (List (Nat × zE)) := [[(0, (.aload_n 0, 1, 0, 0, 0, [], [])), (1, (.getfield 10, 4, 0, 0, 0, [], [])), (4, (.getfield 149, 7, 0, 0, 0, [], [])), (7, (.iload_n 1, 8, 0, 0, 0, [], [])), (8, (.invokevirtual 160, 11, 0, 0, 0, [], [])), (11, (.ifCond .eq 17, 14, 28, 0, 0, [], [])), (14, (.aload_n 0, 15, 0, 0, 0, [], [])), (15, (.getfield 10, 18, 0, 0, 0, [], [])), (18, (.getfield 68, 21, 0, 0, 0, [], [])), (21, (.iload_n 2, 22, 0, 0, 0, [], [])), (22, (.invokevirtual 72, 25, 0, 0, 0, [], [])), (25, (.ifCond .ne 5, 28, 30, 0, 0, [], [])), (28, (.iconst (-1), 29, 0, (-1), 0, [], [])), (29, (.ireturn, 30, 0, 0, 0, [], [])), (30, (.aload_n 0, 31, 0, 0, 0, [], [])), (31, (.getfield 10, 34, 0, 0, 0, [], []))],
  [(34, (.getfield 68, 37, 0, 0, 0, [], [])), (37, (.iload_n 2, 38, 0, 0, 0, [], [])), (38, (.invokevirtual 85, 41, 0, 0, 0, [], [])), (41, (.ifCond .ne 6, 44, 47, 0, 0, [], [])), (44, (.bipush (-4), 46, 0, (-4), 0, [], [])), (46, (.ireturn, 47, 0, 0, 0, [], [])), (47, (.aload_n 0, 48, 0, 0, 0, [], [])), (48, (.getfield 10, 51, 0, 0, 0, [], [])), (51, (.getfield 149, 54, 0, 0, 0, [], [])), (54, (.getfield 167, 57, 0, 0, 0, [], [])), (57, (.iload_n 1, 58, 0, 0, 0, [], [])), (58, (.iload_n 2, 59, 0, 0, 0, [], [])), (59, (.invokestatic 115, 62, 0, 0, 0, [], [])), (62, (.ireturn, 63, 0, 0, 0, [], []))]]
noncomputable abbrev zT_93 : zT := (11, zI_93, 1, 3) -- X11_sit
noncomputable def zI_94 : List (List (Nat × zE)) := [[(0, (.aload_n 0, 1, 0, 0, 0, [], [])), (1, (.getfield 10, 4, 0, 0, 0, [], [])), (4, (.getfield 149, 7, 0, 0, 0, [], [])), (7, (.iload_n 1, 8, 0, 0, 0, [], [])), (8, (.invokevirtual 160, 11, 0, 0, 0, [], [])), (11, (.ifCond .ne 5, 14, 16, 0, 0, [], [])), (14, (.iconst (-1), 15, 0, (-1), 0, [], [])), (15, (.ireturn, 16, 0, 0, 0, [], [])), (16, (.aload_n 0, 17, 0, 0, 0, [], [])), (17, (.getfield 10, 20, 0, 0, 0, [], [])), (20, (.getfield 149, 23, 0, 0, 0, [], [])), (23, (.getfield 167, 26, 0, 0, 0, [], [])), (26, (.iload_n 1, 27, 0, 0, 0, [], [])), (27, (.bipush (-9), 29, 0, (-9), 0, [], [])), (29, (.invokestatic 115, 32, 0, 0, 0, [], []))],
  [(32, (.ireturn, 33, 0, 0, 0, [], []))]]
noncomputable abbrev zT_94 : zT := (11, zI_94, 1, 2) -- X11_down
noncomputable def zI_95 : List (List (Nat × zE)) := [[(0, (.aload_n 0, 1, 0, 0, 0, [], [])), (1, (.getfield 10, 4, 0, 0, 0, [], [])), (4, (.invokevirtual 170, 7, 0, 0, 0, [], [])), (7, (.aload_n 0, 8, 0, 0, 0, [], [])), (8, (.getfield 10, 11, 0, 0, 0, [], [])), (11, (.invokevirtual 173, 14, 0, 0, 0, [], [])), (14, (.ireturn, 15, 0, 0, 0, [], []))]]
noncomputable abbrev zT_95 : zT := (11, zI_95, 1, 1) -- X11_cracks
noncomputable def zI_96 : List (List (Nat × zE)) := [[(0, (.aload_n 0, 1, 0, 0, 0, [], [])), (1, (.getfield 10, 4, 0, 0, 0, [], [])), (4, (.invokevirtual 170, 7, 0, 0, 0, [], [])), (7, (.aload_n 0, 8, 0, 0, 0, [], [])), (8, (.getfield 10, 11, 0, 0, 0, [], [])), (11, (.invokevirtual 177, 14, 0, 0, 0, [], [])), (14, (.istore_n 1, 15, 0, 0, 0, [], [])), (15, (.iload_n 1, 16, 0, 0, 0, [], [])), (16, (.bipush (-9), 18, 0, (-9), 0, [], [])), (18, (.if_icmp .ne 8, 21, 26, 0, 0, [], [])), (21, (.bipush (-3), 23, 0, (-3), 0, [], [])), (23, (.goto 4, 26, 27, 0, 0, [], [])), (26, (.iload_n 1, 27, 0, 0, 0, [], [])), (27, (.ireturn, 28, 0, 0, 0, [], []))]]
noncomputable abbrev zT_96 : zT := (11, zI_96, 1, 2) -- X11_worst
noncomputable def zI_97 : List (List (Nat × zE)) := [[(0, (.aload_n 0, 1, 0, 0, 0, [], [])), (1, (.getfield 10, 4, 0, 0, 0, [], [])), (4, (.invokevirtual 180, 7, 0, 0, 0, [], [])), (7, (.ireturn, 8, 0, 0, 0, [], []))]]
noncomputable abbrev zT_97 : zT := (11, zI_97, 1, 1) -- X11_fall
noncomputable def zI_98 : List (List (Nat × zE)) := [[(0, (.aload_n 0, 1, 0, 0, 0, [], [])), (1, (.getfield 16, 4, 0, 0, 0, [], [])), (4, (.aload_n 0, 5, 0, 0, 0, [], [])), (5, (.getfield 10, 8, 0, 0, 0, [], [])), (8, (.invokevirtual 183, 11, 0, 0, 0, [], [])), (11, (.aload_n 0, 12, 0, 0, 0, [], [])), (12, (.getfield 16, 15, 0, 0, 0, [], [])), (15, (.invokevirtual 180, 18, 0, 0, 0, [], [])), (18, (.ireturn, 19, 0, 0, 0, [], []))]]
noncomputable abbrev zT_98 : zT := (11, zI_98, 1, 1) -- X11_would
noncomputable def zI_99 : List (List (Nat × zE)) := [[(0, (.iload_n 1, 1, 0, 0, 0, [], [])), (1, (.invokestatic 146, 4, 0, 0, 0, [], [])), (4, (.ifCond .ne 5, 7, 9, 0, 0, [], [])), (7, (.iconst (-1), 8, 0, (-1), 0, [], [])), (8, (.ireturn, 9, 0, 0, 0, [], [])), (9, (.aload_n 0, 10, 0, 0, 0, [], [])), (10, (.getfield 16, 13, 0, 0, 0, [], [])), (13, (.aload_n 0, 14, 0, 0, 0, [], [])), (14, (.getfield 10, 17, 0, 0, 0, [], [])), (17, (.invokevirtual 183, 20, 0, 0, 0, [], [])), (20, (.aload_n 0, 21, 0, 0, 0, [], [])), (21, (.getfield 16, 24, 0, 0, 0, [], [])), (24, (.invokevirtual 180, 27, 0, 0, 0, [], [])), (27, (.pop, 28, 0, 0, 0, [], [])), (28, (.aload_n 0, 29, 0, 0, 0, [], [])), (29, (.getfield 16, 32, 0, 0, 0, [], []))],
  [(32, (.getfield 149, 35, 0, 0, 0, [], [])), (35, (.iload_n 1, 36, 0, 0, 0, [], [])), (36, (.invokevirtual 186, 39, 0, 0, 0, [], [])), (39, (.ireturn, 40, 0, 0, 0, [], []))]]
noncomputable abbrev zT_99 : zT := (11, zI_99, 1, 2) -- X11_standing
noncomputable def zI_100 : List (List (Nat × zE)) := [[(0, (.aload_n 0, 1, 0, 0, 0, [], [])), (1, (.getfield 16, 4, 0, 0, 0, [], [])), (4, (.aload_n 0, 5, 0, 0, 0, [], [])), (5, (.getfield 10, 8, 0, 0, 0, [], [])), (8, (.invokevirtual 183, 11, 0, 0, 0, [], [])), (11, (.aload_n 0, 12, 0, 0, 0, [], [])), (12, (.getfield 16, 15, 0, 0, 0, [], [])), (15, (.invokevirtual 180, 18, 0, 0, 0, [], [])), (18, (.pop, 19, 0, 0, 0, [], [])), (19, (.aload_n 0, 20, 0, 0, 0, [], [])), (20, (.getfield 16, 23, 0, 0, 0, [], [])), (23, (.getfield 149, 26, 0, 0, 0, [], [])), (26, (.iconst 0, 27, 0, 0, 0, [], [])), (27, (.invokevirtual 186, 30, 0, 0, 0, [], [])), (30, (.aload_n 0, 31, 0, 0, 0, [], [])), (31, (.getfield 16, 34, 0, 0, 0, [], []))],
  [(34, (.getfield 149, 37, 0, 0, 0, [], [])), (37, (.iconst 1, 38, 0, 1, 0, [], [])), (38, (.invokevirtual 186, 41, 0, 0, 0, [], [])), (41, (.isub, 42, 0, 0, 0, [], [])), (42, (.istore_n 1, 43, 0, 0, 0, [], [])), (43, (.iload_n 1, 44, 0, 0, 0, [], [])), (44, (.ifCond .ne 5, 47, 49, 0, 0, [], [])), (47, (.iconst 2, 48, 0, 2, 0, [], [])), (48, (.ireturn, 49, 0, 0, 0, [], [])), (49, (.iload_n 1, 50, 0, 0, 0, [], [])), (50, (.ifCond .le 7, 53, 57, 0, 0, [], [])), (53, (.iconst 0, 54, 0, 0, 0, [], [])), (54, (.goto 4, 57, 58, 0, 0, [], [])), (57, (.iconst 1, 58, 0, 1, 0, [], [])), (58, (.ireturn, 59, 0, 0, 0, [], []))]]
noncomputable abbrev zT_100 : zT := (11, zI_100, 1, 2) -- X11_verdict
noncomputable def zI_101 : List (List (Nat × zE)) := [[(0, (.aload_n 0, 1, 0, 0, 0, [], [])), (1, (.getfield 10, 4, 0, 0, 0, [], [])), (4, (.getfield 68, 7, 0, 0, 0, [], [])), (7, (.iload_n 1, 8, 0, 0, 0, [], [])), (8, (.invokevirtual 72, 11, 0, 0, 0, [], [])), (11, (.ifCond .ne 5, 14, 16, 0, 0, [], [])), (14, (.iconst (-1), 15, 0, (-1), 0, [], [])), (15, (.ireturn, 16, 0, 0, 0, [], [])), (16, (.aload_n 0, 17, 0, 0, 0, [], [])), (17, (.getfield 10, 20, 0, 0, 0, [], [])), (20, (.getfield 68, 23, 0, 0, 0, [], [])), (23, (.iload_n 1, 24, 0, 0, 0, [], [])), (24, (.invokevirtual 85, 27, 0, 0, 0, [], [])), (27, (.ifCond .ne 6, 30, 33, 0, 0, [], [])), (30, (.bipush (-4), 32, 0, (-4), 0, [], []))],
  [(32, (.ireturn, 33, 0, 0, 0, [], [])), (33, (.aload_n 0, 34, 0, 0, 0, [], [])), (34, (.getfield 10, 37, 0, 0, 0, [], [])), (37, (.invokevirtual 170, 40, 0, 0, 0, [], [])), (40, (.aload_n 0, 41, 0, 0, 0, [], [])), (41, (.getfield 10, 44, 0, 0, 0, [], [])), (44, (.iload_n 1, 45, 0, 0, 0, [], [])), (45, (.invokevirtual 189, 48, 0, 0, 0, [], [])), (48, (.ireturn, 49, 0, 0, 0, [], []))]]
noncomputable abbrev zT_101 : zT := (11, zI_101, 1, 2) -- X11_room
noncomputable def zI_102 : List (List (Nat × zE)) := [[(0, (.aload_n 0, 1, 0, 0, 0, [], [])), (1, (.getfield 10, 4, 0, 0, 0, [], [])), (4, (.getfield 149, 7, 0, 0, 0, [], [])), (7, (.iload_n 1, 8, 0, 0, 0, [], [])), (8, (.invokevirtual 160, 11, 0, 0, 0, [], [])), (11, (.ifCond .ne 5, 14, 16, 0, 0, [], [])), (14, (.iconst (-1), 15, 0, (-1), 0, [], [])), (15, (.ireturn, 16, 0, 0, 0, [], [])), (16, (.aload_n 0, 17, 0, 0, 0, [], [])), (17, (.iload_n 1, 18, 0, 0, 0, [], [])), (18, (.invokevirtual 192, 21, 0, 0, 0, [], [])), (21, (.iconst (-1), 22, 0, (-1), 0, [], [])), (22, (.istore_n 2, 23, 0, 0, 0, [], [])), (23, (.bipush (-3), 25, 0, (-3), 0, [], [])), (25, (.istore_n 3, 26, 0, 0, 0, [], [])), (26, (.iconst 0, 27, 0, 0, 0, [], [])), (27, (.istore 4, 29, 0, 0, 0, [], [])), (29, (.iload 4, 31, 0, 0, 0, [], [true, false, true, true, true])), (31, (.aload_n 0, 32, 0, 0, 0, [], []))],
  [(32, (.getfield 16, 35, 0, 0, 0, [], [])), (35, (.getfield 68, 38, 0, 0, 0, [], [])), (38, (.getfield 81, 41, 0, 0, 0, [], [])), (41, (.if_icmp .ge 50, 44, 91, 0, 0, [], [])), (44, (.aload_n 0, 45, 0, 0, 0, [], [])), (45, (.getfield 16, 48, 0, 0, 0, [], [])), (48, (.getfield 68, 51, 0, 0, 0, [], [])), (51, (.iload 4, 53, 0, 0, 0, [], [])), (53, (.invokevirtual 85, 56, 0, 0, 0, [], [])), (56, (.ifCond .eq 29, 59, 85, 0, 0, [], [])), (59, (.aload_n 0, 60, 0, 0, 0, [], [])), (60, (.getfield 16, 63, 0, 0, 0, [], [])), (63, (.iload 4, 65, 0, 0, 0, [], []))],
  [(65, (.invokevirtual 189, 68, 0, 0, 0, [], [])), (68, (.iload_n 2, 69, 0, 0, 0, [], [])), (69, (.if_icmp .le 16, 72, 85, 0, 0, [], [])), (72, (.aload_n 0, 73, 0, 0, 0, [], [])), (73, (.getfield 16, 76, 0, 0, 0, [], [])), (76, (.iload 4, 78, 0, 0, 0, [], [])), (78, (.invokevirtual 189, 81, 0, 0, 0, [], [])), (81, (.istore_n 2, 82, 0, 0, 0, [], [])), (82, (.iload 4, 84, 0, 0, 0, [], [])), (84, (.istore_n 3, 85, 0, 0, 0, [], [])), (85, (.iinc 4 1, 88, 0, 1, 0, [], [])), (88, (.goto (-59), 91, 29, 0, 0, [], [])), (91, (.iload_n 3, 92, 0, 0, 0, [], [])), (92, (.ireturn, 93, 0, 0, 0, [], []))]]
noncomputable abbrev zT_102 : zT := (11, zI_102, 1, 5) -- X11_best
noncomputable def zI_103 : List (List (Nat × zE)) := [[(0, (.aload_n 0, 1, 0, 0, 0, [], [])), (1, (.getfield 10, 4, 0, 0, 0, [], [])), (4, (.getfield 149, 7, 0, 0, 0, [], [])), (7, (.iload_n 1, 8, 0, 0, 0, [], [])), (8, (.invokevirtual 160, 11, 0, 0, 0, [], [])), (11, (.ifCond .ne 5, 14, 16, 0, 0, [], [])), (14, (.iconst (-1), 15, 0, (-1), 0, [], [])), (15, (.ireturn, 16, 0, 0, 0, [], [])), (16, (.aload_n 0, 17, 0, 0, 0, [], [])), (17, (.iload_n 1, 18, 0, 0, 0, [], [])), (18, (.invokevirtual 192, 21, 0, 0, 0, [], [])), (21, (.aload_n 0, 22, 0, 0, 0, [], [])), (22, (.getfield 10, 25, 0, 0, 0, [], [])), (25, (.getfield 149, 28, 0, 0, 0, [], [])), (28, (.getfield 161, 31, 0, 0, 0, [], [])), (31, (.iload_n 1, 32, 0, 0, 0, [], []))],
  [(32, (.iaload, 33, 0, 0, 0, [], [])), (33, (.istore_n 2, 34, 0, 0, 0, [], [])), (34, (.iconst 0, 35, 0, 0, 0, [], [])), (35, (.istore_n 3, 36, 0, 0, 0, [], [])), (36, (.iconst 0, 37, 0, 0, 0, [], [])), (37, (.istore 4, 39, 0, 0, 0, [], [])), (39, (.iload 4, 41, 0, 0, 0, [], [true, true, true, true, true])), (41, (.aload_n 0, 42, 0, 0, 0, [], [])), (42, (.getfield 16, 45, 0, 0, 0, [], [])), (45, (.getfield 68, 48, 0, 0, 0, [], [])), (48, (.getfield 81, 51, 0, 0, 0, [], [])), (51, (.if_icmp .ge 82, 54, 133, 0, 0, [], [])), (54, (.iload 4, 56, 0, 0, 0, [], [])), (56, (.aload_n 0, 57, 0, 0, 0, [], [])), (57, (.getfield 10, 60, 0, 0, 0, [], [])), (60, (.getfield 149, 63, 0, 0, 0, [], [])), (63, (.getfield 167, 66, 0, 0, 0, [], []))],
  [(66, (.iload_n 1, 67, 0, 0, 0, [], [])), (67, (.iaload, 68, 0, 0, 0, [], [])), (68, (.if_icmp .eq 59, 71, 127, 0, 0, [], [])), (71, (.aload_n 0, 72, 0, 0, 0, [], [])), (72, (.getfield 16, 75, 0, 0, 0, [], [])), (75, (.getfield 68, 78, 0, 0, 0, [], [])), (78, (.iload 4, 80, 0, 0, 0, [], [])), (80, (.invokevirtual 85, 83, 0, 0, 0, [], [])), (83, (.ifCond .ne 6, 86, 89, 0, 0, [], [])), (86, (.goto 41, 89, 127, 0, 0, [], [])), (89, (.aload_n 0, 90, 0, 0, 0, [], [])), (90, (.getfield 16, 93, 0, 0, 0, [], [])), (93, (.iload 4, 95, 0, 0, 0, [], [])), (95, (.iload_n 2, 96, 0, 0, 0, [], []))],
  [(96, (.invokevirtual 196, 99, 0, 0, 0, [], [])), (99, (.aload_n 0, 100, 0, 0, 0, [], [])), (100, (.getfield 16, 103, 0, 0, 0, [], [])), (103, (.invokevirtual 173, 106, 0, 0, 0, [], [])), (106, (.ifCond .ne 10, 109, 116, 0, 0, [], [])), (109, (.iload_n 3, 110, 0, 0, 0, [], [])), (110, (.iconst 1, 111, 0, 1, 0, [], [])), (111, (.iload 4, 113, 0, 0, 0, [], [])), (113, (.ishl, 114, 0, 0, 0, [], [])), (114, (.ior, 115, 0, 0, 0, [], [])), (115, (.istore_n 3, 116, 0, 0, 0, [], [])), (116, (.aload_n 0, 117, 0, 0, 0, [], [])), (117, (.getfield 16, 120, 0, 0, 0, [], [])), (120, (.iload 4, 122, 0, 0, 0, [], [])), (122, (.iload_n 2, 123, 0, 0, 0, [], [])), (123, (.ineg, 124, 0, 0, 0, [], [])), (124, (.invokevirtual 196, 127, 0, 0, 0, [], [])), (127, (.iinc 4 1, 130, 0, 1, 0, [], []))],
  [(130, (.goto (-91), 133, 39, 0, 0, [], [])), (133, (.iload_n 3, 134, 0, 0, 0, [], [])), (134, (.ireturn, 135, 0, 0, 0, [], []))]]
noncomputable abbrev zT_103 : zT := (11, zI_103, 1, 5) -- X11_safe
noncomputable def zI_104 : List (List (Nat × zE)) := [[(0, (.aload_n 0, 1, 0, 0, 0, [], [])), (1, (.getfield 16, 4, 0, 0, 0, [], [])), (4, (.aload_n 0, 5, 0, 0, 0, [], [])), (5, (.getfield 10, 8, 0, 0, 0, [], [])), (8, (.invokevirtual 183, 11, 0, 0, 0, [], [])), (11, (.aload_n 0, 12, 0, 0, 0, [], [])), (12, (.getfield 16, 15, 0, 0, 0, [], [])), (15, (.invokevirtual 180, 18, 0, 0, 0, [], [])), (18, (.pop, 19, 0, 0, 0, [], [])), (19, (.aload_n 0, 20, 0, 0, 0, [], [])), (20, (.getfield 16, 23, 0, 0, 0, [], [])), (23, (.getfield 149, 26, 0, 0, 0, [], [])), (26, (.iconst 0, 27, 0, 0, 0, [], [])), (27, (.invokevirtual 186, 30, 0, 0, 0, [], [])), (30, (.aload_n 0, 31, 0, 0, 0, [], [])), (31, (.getfield 16, 34, 0, 0, 0, [], []))],
  [(34, (.getfield 149, 37, 0, 0, 0, [], [])), (37, (.iconst 1, 38, 0, 1, 0, [], [])), (38, (.invokevirtual 186, 41, 0, 0, 0, [], [])), (41, (.iadd, 42, 0, 0, 0, [], [])), (42, (.istore_n 1, 43, 0, 0, 0, [], [])), (43, (.bipush (-3), 45, 0, (-3), 0, [], [])), (45, (.istore_n 2, 46, 0, 0, 0, [], [])), (46, (.iconst 0, 47, 0, 0, 0, [], [])), (47, (.istore_n 3, 48, 0, 0, 0, [], [])), (48, (.iload_n 3, 49, 0, 0, 0, [], [true, true, true, true, false])), (49, (.aload_n 0, 50, 0, 0, 0, [], [])), (50, (.getfield 10, 53, 0, 0, 0, [], [])), (53, (.getfield 68, 56, 0, 0, 0, [], [])), (56, (.getfield 81, 59, 0, 0, 0, [], [])), (59, (.if_icmp .ge 27, 62, 86, 0, 0, [], [])), (62, (.aload_n 0, 63, 0, 0, 0, [], [])), (63, (.iload_n 3, 64, 0, 0, 0, [], []))],
  [(64, (.invokevirtual 200, 67, 0, 0, 0, [], [])), (67, (.istore 4, 69, 0, 0, 0, [], [])), (69, (.iload 4, 71, 0, 0, 0, [], [])), (71, (.iload_n 1, 72, 0, 0, 0, [], [])), (72, (.if_icmp .le 8, 75, 80, 0, 0, [], [])), (75, (.iload 4, 77, 0, 0, 0, [], [])), (77, (.istore_n 1, 78, 0, 0, 0, [], [])), (78, (.iload_n 3, 79, 0, 0, 0, [], [])), (79, (.istore_n 2, 80, 0, 0, 0, [], [])), (80, (.iinc 3 1, 83, 0, 1, 0, [], [])), (83, (.goto (-35), 86, 48, 0, 0, [], [])), (86, (.iload_n 2, 87, 0, 0, 0, [], [])), (87, (.ireturn, 88, 0, 0, 0, [], []))]]
noncomputable abbrev zT_104 : zT := (11, zI_104, 1, 5) -- X11_prop
noncomputable def zI_105 : List (List (Nat × zE)) := [[(0, (.aload_n 0, 1, 0, 0, 0, [], [])), (1, (.invokevirtual 203, 4, 0, 0, 0, [], [])), (4, (.istore_n 1, 5, 0, 0, 0, [], [])), (5, (.iconst 0, 6, 0, 0, 0, [], [])), (6, (.istore_n 2, 7, 0, 0, 0, [], [])), (7, (.iload_n 2, 8, 0, 0, 0, [], [false, true, true])), (8, (.bipush 9, 10, 0, 9, 0, [], [])), (10, (.if_icmp .gt 19, 13, 29, 0, 0, [], [])), (13, (.iload_n 1, 14, 0, 0, 0, [], [])), (14, (.iload_n 2, 15, 0, 0, 0, [], [])), (15, (.invokestatic 206, 18, 0, 0, 0, [], [])), (18, (.ifCond .eq 5, 21, 23, 0, 0, [], [])), (21, (.iload_n 2, 22, 0, 0, 0, [], [])), (22, (.ireturn, 23, 0, 0, 0, [], [])), (23, (.iinc 2 1, 26, 0, 1, 0, [], [])), (26, (.goto (-19), 29, 7, 0, 0, [], [])), (29, (.bipush (-3), 31, 0, (-3), 0, [], [])), (31, (.ireturn, 32, 0, 0, 0, [], []))]]
noncomputable abbrev zT_105 : zT := (11, zI_105, 1, 3) -- X11_windFor
noncomputable def zI_106 : List (List (Nat × zE)) := [[(0, (.aload_n 0, 1, 0, 0, 0, [], [])), (1, (.getfield 16, 4, 0, 0, 0, [], [])), (4, (.aload_n 0, 5, 0, 0, 0, [], [])), (5, (.getfield 10, 8, 0, 0, 0, [], [])), (8, (.invokevirtual 183, 11, 0, 0, 0, [], [])), (11, (.iconst 0, 12, 0, 0, 0, [], [])), (12, (.istore_n 1, 13, 0, 0, 0, [], [])), (13, (.iload_n 1, 14, 0, 0, 0, [], [true, true])), (14, (.bipush 9, 16, 0, 9, 0, [], [])), (16, (.if_icmp .gt 39, 19, 55, 0, 0, [], [])), (19, (.aload_n 0, 20, 0, 0, 0, [], [])), (20, (.getfield 16, 23, 0, 0, 0, [], [])), (23, (.getfield 68, 26, 0, 0, 0, [], [])), (26, (.iload_n 1, 27, 0, 0, 0, [], [])), (27, (.putfield 119, 30, 0, 0, 0, [], [])), (30, (.aload_n 0, 31, 0, 0, 0, [], [])), (31, (.getfield 16, 34, 0, 0, 0, [], []))],
  [(34, (.invokevirtual 170, 37, 0, 0, 0, [], [])), (37, (.aload_n 0, 38, 0, 0, 0, [], [])), (38, (.getfield 16, 41, 0, 0, 0, [], [])), (41, (.invokevirtual 173, 44, 0, 0, 0, [], [])), (44, (.ifCond .ne 5, 47, 49, 0, 0, [], [])), (47, (.iload_n 1, 48, 0, 0, 0, [], [])), (48, (.ireturn, 49, 0, 0, 0, [], [])), (49, (.iinc 1 1, 52, 0, 1, 0, [], [])), (52, (.goto (-39), 55, 13, 0, 0, [], [])), (55, (.bipush (-3), 57, 0, (-3), 0, [], [])), (57, (.ireturn, 58, 0, 0, 0, [], []))]]
noncomputable abbrev zT_106 : zT := (11, zI_106, 1, 2) -- X11_sapFor
noncomputable def zI_107 : List (List (Nat × zE)) := [[(0, (.aload_n 0, 1, 0, 0, 0, [], [])), (1, (.getfield 16, 4, 0, 0, 0, [], [])), (4, (.aload_n 0, 5, 0, 0, 0, [], [])), (5, (.getfield 10, 8, 0, 0, 0, [], [])), (8, (.invokevirtual 183, 11, 0, 0, 0, [], [])), (11, (.aload_n 0, 12, 0, 0, 0, [], [])), (12, (.getfield 16, 15, 0, 0, 0, [], [])), (15, (.getfield 149, 18, 0, 0, 0, [], [])), (18, (.getfield 167, 21, 0, 0, 0, [], [])), (21, (.iload_n 1, 22, 0, 0, 0, [], [])), (22, (.bipush (-9), 24, 0, (-9), 0, [], [])), (24, (.iastore, 25, 0, 0, 0, [], [])), (25, (.aload_n 0, 26, 0, 0, 0, [], [])), (26, (.getfield 16, 29, 0, 0, 0, [], [])), (29, (.invokevirtual 170, 32, 0, 0, 0, [], []))],
  [(32, (.return_, 33, 0, 0, 0, [], []))]]
noncomputable abbrev zT_107 : zT := (11, zI_107, 0, 2) -- X11_tryWithout
noncomputable def zI_108 : List (List (Nat × zE)) := [[(0, (.aload_n 0, 1, 0, 0, 0, [], [])), (1, (.getfield 16, 4, 0, 0, 0, [], [])), (4, (.aload_n 0, 5, 0, 0, 0, [], [])), (5, (.getfield 10, 8, 0, 0, 0, [], [])), (8, (.invokevirtual 183, 11, 0, 0, 0, [], [])), (11, (.aload_n 0, 12, 0, 0, 0, [], [])), (12, (.getfield 16, 15, 0, 0, 0, [], [])), (15, (.getfield 68, 18, 0, 0, 0, [], [])), (18, (.getfield 92, 21, 0, 0, 0, [], [])), (21, (.iload_n 1, 22, 0, 0, 0, [], [])), (22, (.iconst 4, 23, 0, 4, 0, [], [])), (23, (.iastore, 24, 0, 0, 0, [], [])), (24, (.aload_n 0, 25, 0, 0, 0, [], [])), (25, (.getfield 16, 28, 0, 0, 0, [], [])), (28, (.invokevirtual 180, 31, 0, 0, 0, [], [])), (31, (.pop, 32, 0, 0, 0, [], []))],
  [(32, (.aload_n 0, 33, 0, 0, 0, [], [])), (33, (.getfield 16, 36, 0, 0, 0, [], [])), (36, (.getfield 149, 39, 0, 0, 0, [], [])), (39, (.iconst 0, 40, 0, 0, 0, [], [])), (40, (.invokevirtual 186, 43, 0, 0, 0, [], [])), (43, (.aload_n 0, 44, 0, 0, 0, [], [])), (44, (.getfield 16, 47, 0, 0, 0, [], [])), (47, (.getfield 149, 50, 0, 0, 0, [], [])), (50, (.iconst 1, 51, 0, 1, 0, [], [])), (51, (.invokevirtual 186, 54, 0, 0, 0, [], [])), (54, (.iadd, 55, 0, 0, 0, [], [])), (55, (.ireturn, 56, 0, 0, 0, [], []))]]
noncomputable abbrev zT_108 : zT := (11, zI_108, 1, 2) -- X11_seatedIfPropped
noncomputable def zI_109 : List (List (Nat × zE)) := [[(0, (.aload_n 0, 1, 0, 0, 0, [], [])), (1, (.getfield 16, 4, 0, 0, 0, [], [])), (4, (.aload_n 0, 5, 0, 0, 0, [], [])), (5, (.getfield 10, 8, 0, 0, 0, [], [])), (8, (.invokevirtual 183, 11, 0, 0, 0, [], [])), (11, (.iconst 0, 12, 0, 0, 0, [], [])), (12, (.istore_n 1, 13, 0, 0, 0, [], [])), (13, (.iconst 0, 14, 0, 0, 0, [], [])), (14, (.istore_n 2, 15, 0, 0, 0, [], [])), (15, (.iload_n 2, 16, 0, 0, 0, [], [true, true, true])), (16, (.bipush 9, 18, 0, 9, 0, [], [])), (18, (.if_icmp .gt 43, 21, 61, 0, 0, [], [])), (21, (.aload_n 0, 22, 0, 0, 0, [], [])), (22, (.getfield 16, 25, 0, 0, 0, [], [])), (25, (.getfield 68, 28, 0, 0, 0, [], [])), (28, (.iload_n 2, 29, 0, 0, 0, [], [])), (29, (.putfield 122, 32, 0, 0, 0, [], []))],
  [(32, (.aload_n 0, 33, 0, 0, 0, [], [])), (33, (.getfield 16, 36, 0, 0, 0, [], [])), (36, (.invokevirtual 170, 39, 0, 0, 0, [], [])), (39, (.aload_n 0, 40, 0, 0, 0, [], [])), (40, (.getfield 16, 43, 0, 0, 0, [], [])), (43, (.invokevirtual 173, 46, 0, 0, 0, [], [])), (46, (.ifCond .eq 9, 49, 55, 0, 0, [], [])), (49, (.iload_n 1, 50, 0, 0, 0, [], [])), (50, (.iconst 1, 51, 0, 1, 0, [], [])), (51, (.iload_n 2, 52, 0, 0, 0, [], [])), (52, (.ishl, 53, 0, 0, 0, [], [])), (53, (.ior, 54, 0, 0, 0, [], [])), (54, (.istore_n 1, 55, 0, 0, 0, [], [])), (55, (.iinc 2 1, 58, 0, 1, 0, [], [])), (58, (.goto (-43), 61, 15, 0, 0, [], [])), (61, (.iload_n 1, 62, 0, 0, 0, [], [])), (62, (.ireturn, 63, 0, 0, 0, [], []))]]
noncomputable abbrev zT_109 : zT := (11, zI_109, 1, 3) -- X11_crackingWinds
noncomputable def zI_110 : List (List (Nat × zE)) := [[(0, (.aload_n 0, 1, 0, 0, 0, [], [])), (1, (.iload_n 1, 2, 0, 0, 0, [], [])), (2, (.invokevirtual 210, 5, 0, 0, 0, [], [])), (5, (.ifCond .eq 12, 8, 17, 0, 0, [], [])), (8, (.iload_n 2, 9, 0, 0, 0, [], [])), (9, (.iconst 0, 10, 0, 0, 0, [], [])), (10, (.iconst 3, 11, 0, 3, 0, [], [])), (11, (.invokestatic 77, 14, 0, 0, 0, [], [])), (14, (.ifCond .ne 5, 17, 19, 0, 0, [], [])), (17, (.iconst (-1), 18, 0, (-1), 0, [], [])), (18, (.ireturn, 19, 0, 0, 0, [], [])), (19, (.aload_n 0, 20, 0, 0, 0, [], [])), (20, (.getfield 39, 23, 0, 0, 0, [], [])), (23, (.aload_n 0, 24, 0, 0, 0, [], [])), (24, (.getfield 10, 27, 0, 0, 0, [], [])), (27, (.iload_n 1, 28, 0, 0, 0, [], [])), (28, (.invokevirtual 213, 31, 0, 0, 0, [], [])), (31, (.ifCond .eq 14, 34, 45, 0, 0, [], []))],
  [(34, (.iload_n 2, 35, 0, 0, 0, [], [])), (35, (.aload_n 0, 36, 0, 0, 0, [], [])), (36, (.getfield 39, 39, 0, 0, 0, [], [])), (39, (.getfield 217, 42, 0, 0, 0, [], [])), (42, (.if_icmp .lt 6, 45, 48, 0, 0, [], [])), (45, (.bipush (-3), 47, 0, (-3), 0, [], [])), (47, (.ireturn, 48, 0, 0, 0, [], [])), (48, (.aload_n 0, 49, 0, 0, 0, [], [])), (49, (.getfield 39, 52, 0, 0, 0, [], [])), (52, (.getfield 218, 55, 0, 0, 0, [], [])), (55, (.iload_n 2, 56, 0, 0, 0, [], [])), (56, (.iaload, 57, 0, 0, 0, [], [])), (57, (.ireturn, 58, 0, 0, 0, [], []))]]
noncomputable abbrev zT_110 : zT := (11, zI_110, 1, 3) -- X11_seat
noncomputable def zI_111 : List (List (Nat × zE)) := [[(0, (.aload_n 0, 1, 0, 0, 0, [], [])), (1, (.iload_n 1, 2, 0, 0, 0, [], [])), (2, (.invokevirtual 210, 5, 0, 0, 0, [], [])), (5, (.ifCond .ne 5, 8, 10, 0, 0, [], [])), (8, (.iconst (-1), 9, 0, (-1), 0, [], [])), (9, (.ireturn, 10, 0, 0, 0, [], [])), (10, (.aload_n 0, 11, 0, 0, 0, [], [])), (11, (.getfield 39, 14, 0, 0, 0, [], [])), (14, (.aload_n 0, 15, 0, 0, 0, [], [])), (15, (.getfield 10, 18, 0, 0, 0, [], [])), (18, (.iload_n 1, 19, 0, 0, 0, [], [])), (19, (.invokevirtual 213, 22, 0, 0, 0, [], [])), (22, (.ifCond .ne 6, 25, 28, 0, 0, [], [])), (25, (.bipush (-3), 27, 0, (-3), 0, [], [])), (27, (.ireturn, 28, 0, 0, 0, [], [])), (28, (.iconst 0, 29, 0, 0, 0, [], [])), (29, (.istore_n 2, 30, 0, 0, 0, [], [])), (30, (.iload_n 2, 31, 0, 0, 0, [], [true, false, true])), (31, (.aload_n 0, 32, 0, 0, 0, [], []))],
  [(32, (.getfield 39, 35, 0, 0, 0, [], [])), (35, (.getfield 217, 38, 0, 0, 0, [], [])), (38, (.if_icmp .ge 38, 41, 76, 0, 0, [], [])), (41, (.aload_n 0, 42, 0, 0, 0, [], [])), (42, (.getfield 10, 45, 0, 0, 0, [], [])), (45, (.getfield 149, 48, 0, 0, 0, [], [])), (48, (.getfield 167, 51, 0, 0, 0, [], [])), (51, (.aload_n 0, 52, 0, 0, 0, [], [])), (52, (.getfield 39, 55, 0, 0, 0, [], [])), (55, (.getfield 219, 58, 0, 0, 0, [], [])), (58, (.iload_n 2, 59, 0, 0, 0, [], [])), (59, (.iaload, 60, 0, 0, 0, [], [])), (60, (.aload_n 0, 61, 0, 0, 0, [], [])), (61, (.getfield 39, 64, 0, 0, 0, [], []))],
  [(64, (.getfield 218, 67, 0, 0, 0, [], [])), (67, (.iload_n 2, 68, 0, 0, 0, [], [])), (68, (.iaload, 69, 0, 0, 0, [], [])), (69, (.iastore, 70, 0, 0, 0, [], [])), (70, (.iinc 2 1, 73, 0, 1, 0, [], [])), (73, (.goto (-43), 76, 30, 0, 0, [], [])), (76, (.aload_n 0, 77, 0, 0, 0, [], [])), (77, (.getfield 39, 80, 0, 0, 0, [], [])), (80, (.getfield 217, 83, 0, 0, 0, [], [])), (83, (.ireturn, 84, 0, 0, 0, [], []))]]
noncomputable abbrev zT_111 : zT := (11, zI_111, 1, 3) -- X11_seatAll
noncomputable def zI_112 : List (List (Nat × zE)) := [[(0, (.iload_n 1, 1, 0, 0, 0, [], [])), (1, (.invokestatic 146, 4, 0, 0, 0, [], [])), (4, (.ifCond .eq 12, 7, 16, 0, 0, [], [])), (7, (.iload_n 2, 8, 0, 0, 0, [], [])), (8, (.iconst 1, 9, 0, 1, 0, [], [])), (9, (.iconst 4, 10, 0, 4, 0, [], [])), (10, (.invokestatic 77, 13, 0, 0, 0, [], [])), (13, (.ifCond .ne 5, 16, 18, 0, 0, [], [])), (16, (.iconst (-1), 17, 0, (-1), 0, [], [])), (17, (.ireturn, 18, 0, 0, 0, [], [])), (18, (.aload_n 0, 19, 0, 0, 0, [], [])), (19, (.getfield 39, 22, 0, 0, 0, [], [])), (22, (.aload_n 0, 23, 0, 0, 0, [], [])), (23, (.getfield 10, 26, 0, 0, 0, [], [])), (26, (.iload_n 1, 27, 0, 0, 0, [], [])), (27, (.iload_n 2, 28, 0, 0, 0, [], [])), (28, (.invokevirtual 222, 31, 0, 0, 0, [], [])), (31, (.ireturn, 32, 0, 0, 0, [], []))]]
noncomputable abbrev zT_112 : zT := (11, zI_112, 1, 3) -- X11_game
noncomputable def zI_113 : List (List (Nat × zE)) := [[(0, (.iload_n 1, 1, 0, 0, 0, [], [])), (1, (.invokestatic 146, 4, 0, 0, 0, [], [])), (4, (.ifCond .eq 12, 7, 16, 0, 0, [], [])), (7, (.iload_n 2, 8, 0, 0, 0, [], [])), (8, (.iconst 1, 9, 0, 1, 0, [], [])), (9, (.iconst 4, 10, 0, 4, 0, [], [])), (10, (.invokestatic 77, 13, 0, 0, 0, [], [])), (13, (.ifCond .ne 5, 16, 18, 0, 0, [], [])), (16, (.iconst (-1), 17, 0, (-1), 0, [], [])), (17, (.ireturn, 18, 0, 0, 0, [], [])), (18, (.aload_n 0, 19, 0, 0, 0, [], [])), (19, (.getfield 39, 22, 0, 0, 0, [], [])), (22, (.aload_n 0, 23, 0, 0, 0, [], [])), (23, (.getfield 10, 26, 0, 0, 0, [], [])), (26, (.iload_n 1, 27, 0, 0, 0, [], [])), (27, (.iload_n 2, 28, 0, 0, 0, [], [])), (28, (.invokevirtual 226, 31, 0, 0, 0, [], [])), (31, (.ireturn, 32, 0, 0, 0, [], []))]]
noncomputable abbrev zT_113 : zT := (11, zI_113, 1, 3) -- X11_move
noncomputable def zI_114 : List (List (Nat × zE)) := [[(0, (.iload_n 1, 1, 0, 0, 0, [], [])), (1, (.aload_n 0, 2, 0, 0, 0, [], [])), (2, (.getfield 10, 5, 0, 0, 0, [], [])), (5, (.getfield 149, 8, 0, 0, 0, [], [])), (8, (.getfield 153, 11, 0, 0, 0, [], [])), (11, (.iushr, 12, 0, 0, 0, [], [])), (12, (.ifCond .ne 15, 15, 27, 0, 0, [], [])), (15, (.iload_n 1, 16, 0, 0, 0, [], [])), (16, (.invokestatic 229, 19, 0, 0, 0, [], [])), (19, (.iconst 4, 20, 0, 4, 0, [], [])), (20, (.if_icmp .gt 7, 23, 27, 0, 0, [], [])), (23, (.iconst 1, 24, 0, 1, 0, [], [])), (24, (.goto 4, 27, 28, 0, 0, [], [])), (27, (.iconst 0, 28, 0, 0, 0, [], [])), (28, (.ireturn, 29, 0, 0, 0, [], []))]]
noncomputable abbrev zT_114 : zT := (11, zI_114, 3, 2) -- X11_isSeatable
noncomputable def zI_115 : List (List (Nat × zE)) := [[(0, (.aload_n 0, 1, 0, 0, 0, [], [])), (1, (.getfield 10, 4, 0, 0, 0, [], [])), (4, (.getfield 68, 7, 0, 0, 0, [], [])), (7, (.iload_n 1, 8, 0, 0, 0, [], [])), (8, (.invokevirtual 72, 11, 0, 0, 0, [], [])), (11, (.ifCond .eq 12, 14, 23, 0, 0, [], [])), (14, (.iload_n 2, 15, 0, 0, 0, [], [])), (15, (.iconst 0, 16, 0, 0, 0, [], [])), (16, (.iconst 1, 17, 0, 1, 0, [], [])), (17, (.invokestatic 77, 20, 0, 0, 0, [], [])), (20, (.ifCond .ne 5, 23, 25, 0, 0, [], [])), (23, (.iconst (-1), 24, 0, (-1), 0, [], [])), (24, (.ireturn, 25, 0, 0, 0, [], [])), (25, (.aload_n 0, 26, 0, 0, 0, [], [])), (26, (.getfield 10, 29, 0, 0, 0, [], [])), (29, (.getfield 234, 32, 0, 0, 0, [], []))],
  [(32, (.getfield 238, 35, 0, 0, 0, [], [])), (35, (.bipush 6, 37, 0, 6, 0, [], [])), (37, (.if_icmp .lt 6, 40, 43, 0, 0, [], [])), (40, (.bipush (-2), 42, 0, (-2), 0, [], [])), (42, (.ireturn, 43, 0, 0, 0, [], [])), (43, (.aload_n 0, 44, 0, 0, 0, [], [])), (44, (.getfield 10, 47, 0, 0, 0, [], [])), (47, (.getfield 234, 50, 0, 0, 0, [], [])), (50, (.iload_n 1, 51, 0, 0, 0, [], [])), (51, (.iload_n 2, 52, 0, 0, 0, [], [])), (52, (.invokevirtual 241, 55, 0, 0, 0, [], [])), (55, (.ireturn, 56, 0, 0, 0, [], []))]]
noncomputable abbrev zT_115 : zT := (11, zI_115, 1, 3) -- X11_report
noncomputable def zI_116 : List (List (Nat × zE)) := [[(0, (.aload_n 0, 1, 0, 0, 0, [], [])), (1, (.getfield 10, 4, 0, 0, 0, [], [])), (4, (.getfield 234, 7, 0, 0, 0, [], [])), (7, (.getfield 238, 10, 0, 0, 0, [], [])), (10, (.istore_n 1, 11, 0, 0, 0, [], [])), (11, (.aload_n 0, 12, 0, 0, 0, [], [])), (12, (.getfield 10, 15, 0, 0, 0, [], [])), (15, (.getfield 234, 18, 0, 0, 0, [], [])), (18, (.iconst 0, 19, 0, 0, 0, [], [])), (19, (.putfield 238, 22, 0, 0, 0, [], [])), (22, (.iload_n 1, 23, 0, 0, 0, [], [])), (23, (.ireturn, 24, 0, 0, 0, [], []))]]
noncomputable abbrev zT_116 : zT := (11, zI_116, 1, 2) -- X11_forget
noncomputable def zI_117 : List (List (Nat × zE)) := [[(0, (.iload_n 1, 1, 0, 0, 0, [], [])), (1, (.iconst 0, 2, 0, 0, 0, [], [])), (2, (.iconst 2, 3, 0, 2, 0, [], [])), (3, (.invokestatic 77, 6, 0, 0, 0, [], [])), (6, (.ifCond .ne 5, 9, 11, 0, 0, [], [])), (9, (.iconst (-1), 10, 0, (-1), 0, [], [])), (10, (.ireturn, 11, 0, 0, 0, [], [])), (11, (.aload_n 0, 12, 0, 0, 0, [], [])), (12, (.getfield 10, 15, 0, 0, 0, [], [])), (15, (.invokevirtual 170, 18, 0, 0, 0, [], [])), (18, (.aload_n 0, 19, 0, 0, 0, [], [])), (19, (.getfield 10, 22, 0, 0, 0, [], [])), (22, (.getfield 234, 25, 0, 0, 0, [], [])), (25, (.aload_n 0, 26, 0, 0, 0, [], [])), (26, (.getfield 10, 29, 0, 0, 0, [], [])), (29, (.bipush (-9), 31, 0, (-9), 0, [], [])), (31, (.invokevirtual 244, 34, 0, 0, 0, [], []))],
  [(34, (.iload_n 1, 35, 0, 0, 0, [], [])), (35, (.ifCond .ne 14, 38, 49, 0, 0, [], [])), (38, (.aload_n 0, 39, 0, 0, 0, [], [])), (39, (.getfield 10, 42, 0, 0, 0, [], [])), (42, (.getfield 234, 45, 0, 0, 0, [], [])), (45, (.invokevirtual 248, 48, 0, 0, 0, [], [])), (48, (.ireturn, 49, 0, 0, 0, [], [])), (49, (.aload_n 0, 50, 0, 0, 0, [], [])), (50, (.getfield 10, 53, 0, 0, 0, [], [])), (53, (.getfield 234, 56, 0, 0, 0, [], [])), (56, (.invokevirtual 248, 59, 0, 0, 0, [], [])), (59, (.ifCond .ne 6, 62, 65, 0, 0, [], [])), (62, (.bipush (-3), 64, 0, (-3), 0, [], []))],
  [(64, (.ireturn, 65, 0, 0, 0, [], [])), (65, (.iload_n 1, 66, 0, 0, 0, [], [])), (66, (.iconst 1, 67, 0, 1, 0, [], [])), (67, (.if_icmp .ne 16, 70, 83, 0, 0, [], [])), (70, (.aload_n 0, 71, 0, 0, 0, [], [])), (71, (.getfield 10, 74, 0, 0, 0, [], [])), (74, (.getfield 234, 77, 0, 0, 0, [], [])), (77, (.getfield 251, 80, 0, 0, 0, [], [])), (80, (.goto 13, 83, 93, 0, 0, [], [])), (83, (.aload_n 0, 84, 0, 0, 0, [], [])), (84, (.getfield 10, 87, 0, 0, 0, [], [])), (87, (.getfield 234, 90, 0, 0, 0, [], [])), (90, (.getfield 254, 93, 0, 0, 0, [], [])), (93, (.ireturn, 94, 0, 0, 0, [], []))]]
noncomputable abbrev zT_117 : zT := (11, zI_117, 1, 2) -- X11_span
noncomputable def zI_118 : List (List (Nat × zE)) := [[(0, (.aload_n 0, 1, 0, 0, 0, [], [])), (1, (.getfield 10, 4, 0, 0, 0, [], [])), (4, (.invokevirtual 170, 7, 0, 0, 0, [], [])), (7, (.aload_n 0, 8, 0, 0, 0, [], [])), (8, (.getfield 10, 11, 0, 0, 0, [], [])), (11, (.getfield 234, 14, 0, 0, 0, [], [])), (14, (.aload_n 0, 15, 0, 0, 0, [], [])), (15, (.getfield 10, 18, 0, 0, 0, [], [])), (18, (.bipush (-9), 20, 0, (-9), 0, [], [])), (20, (.invokevirtual 244, 23, 0, 0, 0, [], [])), (23, (.aload_n 0, 24, 0, 0, 0, [], [])), (24, (.getfield 10, 27, 0, 0, 0, [], [])), (27, (.getfield 234, 30, 0, 0, 0, [], [])), (30, (.invokevirtual 248, 33, 0, 0, 0, [], []))],
  [(33, (.ifCond .le 6, 36, 39, 0, 0, [], [])), (36, (.bipush (-3), 38, 0, (-3), 0, [], [])), (38, (.ireturn, 39, 0, 0, 0, [], [])), (39, (.iconst 0, 40, 0, 0, 0, [], [])), (40, (.istore_n 1, 41, 0, 0, 0, [], [])), (41, (.iload_n 1, 42, 0, 0, 0, [], [true, true])), (42, (.aload_n 0, 43, 0, 0, 0, [], [])), (43, (.getfield 10, 46, 0, 0, 0, [], [])), (46, (.getfield 234, 49, 0, 0, 0, [], [])), (49, (.getfield 238, 52, 0, 0, 0, [], [])), (52, (.if_icmp .ge 39, 55, 91, 0, 0, [], [])), (55, (.aload_n 0, 56, 0, 0, 0, [], [])), (56, (.getfield 10, 59, 0, 0, 0, [], [])), (59, (.getfield 234, 62, 0, 0, 0, [], [])), (62, (.aload_n 0, 63, 0, 0, 0, [], [])), (63, (.getfield 10, 66, 0, 0, 0, [], []))],
  [(66, (.iload_n 1, 67, 0, 0, 0, [], [])), (67, (.invokevirtual 244, 70, 0, 0, 0, [], [])), (70, (.aload_n 0, 71, 0, 0, 0, [], [])), (71, (.getfield 10, 74, 0, 0, 0, [], [])), (74, (.getfield 234, 77, 0, 0, 0, [], [])), (77, (.invokevirtual 248, 80, 0, 0, 0, [], [])), (80, (.ifCond .le 5, 83, 85, 0, 0, [], [])), (83, (.iload_n 1, 84, 0, 0, 0, [], [])), (84, (.ireturn, 85, 0, 0, 0, [], [])), (85, (.iinc 1 1, 88, 0, 1, 0, [], [])), (88, (.goto (-47), 91, 41, 0, 0, [], [])), (91, (.bipush (-3), 93, 0, (-3), 0, [], [])), (93, (.ireturn, 94, 0, 0, 0, [], []))]]
noncomputable abbrev zT_118 : zT := (11, zI_118, 1, 2) -- X11_liar
noncomputable def zI_119 : List (List (Nat × zE)) := [[(0, (.aload_n 0, 1, 0, 0, 0, [], [])), (1, (.getfield 10, 4, 0, 0, 0, [], [])), (4, (.getfield 257, 7, 0, 0, 0, [], [])), (7, (.istore_n 2, 8, 0, 0, 0, [], [])), (8, (.aload_n 0, 9, 0, 0, 0, [], [])), (9, (.getfield 10, 12, 0, 0, 0, [], [])), (12, (.iload_n 1, 13, 0, 0, 0, [], [])), (13, (.putfield 257, 16, 0, 0, 0, [], [])), (16, (.iload_n 2, 17, 0, 0, 0, [], [])), (17, (.ireturn, 18, 0, 0, 0, [], []))]]
noncomputable abbrev zT_119 : zT := (11, zI_119, 1, 3) -- X11_seed
noncomputable def zI_120 : List (List (Nat × zE)) := [[(0, (.aload_n 0, 1, 0, 0, 0, [], [])), (1, (.getfield 10, 4, 0, 0, 0, [], [])), (4, (.aload_n 0, 5, 0, 0, 0, [], [])), (5, (.getfield 10, 8, 0, 0, 0, [], [])), (8, (.getfield 257, 11, 0, 0, 0, [], [])), (11, (.invokestatic 260, 14, 0, 0, 0, [], [])), (14, (.putfield 257, 17, 0, 0, 0, [], [])), (17, (.aload_n 0, 18, 0, 0, 0, [], [])), (18, (.getfield 10, 21, 0, 0, 0, [], [])), (21, (.getfield 68, 24, 0, 0, 0, [], [])), (24, (.aload_n 0, 25, 0, 0, 0, [], [])), (25, (.getfield 10, 28, 0, 0, 0, [], [])), (28, (.getfield 257, 31, 0, 0, 0, [], [])), (31, (.invokestatic 263, 34, 0, 0, 0, [], []))],
  [(34, (.putfield 122, 37, 0, 0, 0, [], [])), (37, (.aload_n 0, 38, 0, 0, 0, [], [])), (38, (.getfield 10, 41, 0, 0, 0, [], [])), (41, (.getfield 68, 44, 0, 0, 0, [], [])), (44, (.getfield 122, 47, 0, 0, 0, [], [])), (47, (.ireturn, 48, 0, 0, 0, [], []))]]
noncomputable abbrev zT_120 : zT := (11, zI_120, 1, 1) -- X11_draw
noncomputable def zI_121 : List (List (Nat × zE)) := [[(0, (.iload_n 1, 1, 0, 0, 0, [], [])), (1, (.iconst 1, 2, 0, 1, 0, [], [])), (2, (.bipush 60, 4, 0, 60, 0, [], [])), (4, (.invokestatic 77, 7, 0, 0, 0, [], [])), (7, (.ifCond .ne 5, 10, 12, 0, 0, [], [])), (10, (.iconst (-1), 11, 0, (-1), 0, [], [])), (11, (.ireturn, 12, 0, 0, 0, [], [])), (12, (.aload_n 0, 13, 0, 0, 0, [], [])), (13, (.invokevirtual 203, 16, 0, 0, 0, [], [])), (16, (.istore_n 2, 17, 0, 0, 0, [], [])), (17, (.aload_n 0, 18, 0, 0, 0, [], [])), (18, (.getfield 10, 21, 0, 0, 0, [], [])), (21, (.getfield 257, 24, 0, 0, 0, [], [])), (24, (.istore_n 3, 25, 0, 0, 0, [], [])), (25, (.iconst 0, 26, 0, 0, 0, [], [])), (26, (.istore 4, 28, 0, 0, 0, [], [])), (28, (.iconst 0, 29, 0, 0, 0, [], [])), (29, (.istore 5, 31, 0, 0, 0, [], [])), (31, (.iload 5, 33, 0, 0, 0, [], [false, true, true, true, true, true]))],
  [(33, (.iload_n 1, 34, 0, 0, 0, [], [])), (34, (.if_icmp .ge 28, 37, 62, 0, 0, [], [])), (37, (.iload_n 3, 38, 0, 0, 0, [], [])), (38, (.invokestatic 260, 41, 0, 0, 0, [], [])), (41, (.istore_n 3, 42, 0, 0, 0, [], [])), (42, (.iload_n 2, 43, 0, 0, 0, [], [])), (43, (.iload_n 3, 44, 0, 0, 0, [], [])), (44, (.invokestatic 263, 47, 0, 0, 0, [], [])), (47, (.invokestatic 206, 50, 0, 0, 0, [], [])), (50, (.ifCond .eq 6, 53, 56, 0, 0, [], [])), (53, (.iinc 4 1, 56, 0, 1, 0, [], [])), (56, (.iinc 5 1, 59, 0, 1, 0, [], [])), (59, (.goto (-28), 62, 31, 0, 0, [], [])), (62, (.iload 4, 64, 0, 0, 0, [], []))],
  [(64, (.ireturn, 65, 0, 0, 0, [], []))]]
noncomputable abbrev zT_121 : zT := (11, zI_121, 1, 6) -- X11_often
noncomputable def zI_122 : List (List (Nat × zE)) := [[(0, (.iload_n 0, 1, 0, 0, 0, [], [])), (1, (.ldc_w 266, 4, 0, 1103515245, 0, [], [])), (4, (.imul, 5, 0, 0, 0, [], [])), (5, (.sipush 12345, 8, 0, 12345, 0, [], [])), (8, (.iadd, 9, 0, 0, 0, [], [])), (9, (.ireturn, 10, 0, 0, 0, [], []))]]
noncomputable abbrev zT_122 : zT := (11, zI_122, 1, 1) -- X11_drawnFrom
noncomputable def zI_123 : List (List (Nat × zE)) := [[(0, (.iload_n 0, 1, 0, 0, 0, [], [])), (1, (.bipush 16, 3, 0, 16, 0, [], [])), (3, (.iushr, 4, 0, 0, 0, [], [])), (4, (.bipush 10, 6, 0, 10, 0, [], [])), (6, (.irem, 7, 0, 0, 0, [], [])), (7, (.ireturn, 8, 0, 0, 0, [], []))]]
noncomputable abbrev zT_123 : zT := (11, zI_123, 1, 1) -- X11_windOf
noncomputable def zI_124 : List (List (Nat × zE)) := [[(0, (.aload_n 0, 1, 0, 0, 0, [], [])), (1, (.getfield 10, 4, 0, 0, 0, [], [])), (4, (.getfield 68, 7, 0, 0, 0, [], [])), (7, (.iload_n 1, 8, 0, 0, 0, [], [])), (8, (.invokevirtual 72, 11, 0, 0, 0, [], [])), (11, (.ifCond .ne 5, 14, 16, 0, 0, [], [])), (14, (.iconst (-1), 15, 0, (-1), 0, [], [])), (15, (.ireturn, 16, 0, 0, 0, [], [])), (16, (.aload_n 0, 17, 0, 0, 0, [], [])), (17, (.getfield 46, 20, 0, 0, 0, [], [])), (20, (.aload_n 0, 21, 0, 0, 0, [], [])), (21, (.getfield 10, 24, 0, 0, 0, [], [])), (24, (.iload_n 1, 25, 0, 0, 0, [], [])), (25, (.invokevirtual 267, 28, 0, 0, 0, [], [])), (28, (.aload_n 0, 29, 0, 0, 0, [], [])), (29, (.getfield 46, 32, 0, 0, 0, [], []))],
  [(32, (.getfield 270, 35, 0, 0, 0, [], [])), (35, (.ireturn, 36, 0, 0, 0, [], []))]]
noncomputable abbrev zT_124 : zT := (11, zI_124, 1, 2) -- X11_prove
noncomputable def zI_125 : List (List (Nat × zE)) := [[(0, (.aload_n 0, 1, 0, 0, 0, [], [])), (1, (.getfield 46, 4, 0, 0, 0, [], [])), (4, (.iload_n 1, 5, 0, 0, 0, [], [])), (5, (.iload_n 2, 6, 0, 0, 0, [], [])), (6, (.invokevirtual 271, 9, 0, 0, 0, [], [])), (9, (.ifCond .eq 17, 12, 26, 0, 0, [], [])), (12, (.aload_n 0, 13, 0, 0, 0, [], [])), (13, (.getfield 46, 16, 0, 0, 0, [], [])), (16, (.getfield 274, 19, 0, 0, 0, [], [])), (19, (.iload_n 1, 20, 0, 0, 0, [], [])), (20, (.aaload, 21, 0, 0, 0, [], [])), (21, (.iload_n 2, 22, 0, 0, 0, [], [])), (22, (.iaload, 23, 0, 0, 0, [], [])), (23, (.goto 5, 26, 28, 0, 0, [], [])), (26, (.bipush (-9), 28, 0, (-9), 0, [], [])), (28, (.ireturn, 29, 0, 0, 0, [], []))]]
noncomputable abbrev zT_125 : zT := (11, zI_125, 1, 3) -- X11_row
noncomputable def zI_126 : List (List (Nat × zE)) := [[(0, (.aload_n 0, 1, 0, 0, 0, [], [])), (1, (.getfield 46, 4, 0, 0, 0, [], [])), (4, (.iload_n 1, 5, 0, 0, 0, [], [])), (5, (.iload_n 2, 6, 0, 0, 0, [], [])), (6, (.invokevirtual 271, 9, 0, 0, 0, [], [])), (9, (.ifCond .eq 20, 12, 29, 0, 0, [], [])), (12, (.aload_n 0, 13, 0, 0, 0, [], [])), (13, (.getfield 46, 16, 0, 0, 0, [], [])), (16, (.getfield 274, 19, 0, 0, 0, [], [])), (19, (.iload_n 1, 20, 0, 0, 0, [], [])), (20, (.aaload, 21, 0, 0, 0, [], [])), (21, (.iload_n 2, 22, 0, 0, 0, [], [])), (22, (.iload_n 3, 23, 0, 0, 0, [], [])), (23, (.invokestatic 115, 26, 0, 0, 0, [], [])), (26, (.goto 5, 29, 31, 0, 0, [], [])), (29, (.bipush (-9), 31, 0, (-9), 0, [], [])), (31, (.ireturn, 32, 0, 0, 0, [], []))]]
noncomputable abbrev zT_126 : zT := (11, zI_126, 1, 4) -- X11_alterRow
noncomputable def zI_127 : List (List (Nat × zE)) := [[(0, (.aload_n 0, 1, 0, 0, 0, [], [])), (1, (.getfield 46, 4, 0, 0, 0, [], [])), (4, (.aload_n 0, 5, 0, 0, 0, [], [])), (5, (.getfield 10, 8, 0, 0, 0, [], [])), (8, (.invokevirtual 278, 11, 0, 0, 0, [], [])), (11, (.ireturn, 12, 0, 0, 0, [], []))]]
noncomputable abbrev zT_127 : zT := (11, zI_127, 1, 1) -- X11_judge
noncomputable def zI_128 : List (List (Nat × zE)) := [[(0, (.iload_n 1, 1, 0, 0, 0, [], [])), (1, (.invokestatic 282, 4, 0, 0, 0, [], [])), (4, (.ifCond .eq 12, 7, 16, 0, 0, [], [])), (7, (.iload_n 2, 8, 0, 0, 0, [], [])), (8, (.iconst (-1), 9, 0, (-1), 0, [], [])), (9, (.iconst 4, 10, 0, 4, 0, [], [])), (10, (.invokestatic 77, 13, 0, 0, 0, [], [])), (13, (.ifCond .ne 5, 16, 18, 0, 0, [], [])), (16, (.iconst (-1), 17, 0, (-1), 0, [], [])), (17, (.ireturn, 18, 0, 0, 0, [], [])), (18, (.iload_n 2, 19, 0, 0, 0, [], [])), (19, (.iconst (-1), 20, 0, (-1), 0, [], [])), (20, (.if_icmp .ne 15, 23, 35, 0, 0, [], [])), (23, (.aload_n 0, 24, 0, 0, 0, [], [])), (24, (.getfield 53, 27, 0, 0, 0, [], [])), (27, (.getfield 285, 30, 0, 0, 0, [], [])), (30, (.iload_n 1, 31, 0, 0, 0, [], [])), (31, (.iconst (-1), 32, 0, (-1), 0, [], []))],
  [(32, (.iastore, 33, 0, 0, 0, [], [])), (33, (.iconst 1, 34, 0, 1, 0, [], [])), (34, (.ireturn, 35, 0, 0, 0, [], [])), (35, (.iload_n 3, 36, 0, 0, 0, [], [])), (36, (.bipush 40, 38, 0, 40, 0, [], [])), (38, (.if_icmp .le 5, 41, 43, 0, 0, [], [])), (41, (.iconst (-1), 42, 0, (-1), 0, [], [])), (42, (.ireturn, 43, 0, 0, 0, [], [])), (43, (.iload_n 3, 44, 0, 0, 0, [], [])), (44, (.ifCond .ge 6, 47, 50, 0, 0, [], [])), (47, (.bipush (-14), 49, 0, (-14), 0, [], [])), (49, (.ireturn, 50, 0, 0, 0, [], [])), (50, (.aload_n 0, 51, 0, 0, 0, [], [])), (51, (.getfield 53, 54, 0, 0, 0, [], [])), (54, (.iload_n 1, 55, 0, 0, 0, [], [])), (55, (.iload_n 2, 56, 0, 0, 0, [], [])), (56, (.iload_n 3, 57, 0, 0, 0, [], [])), (57, (.invokevirtual 288, 60, 0, 0, 0, [], [])), (60, (.iconst 1, 61, 0, 1, 0, [], [])), (61, (.ireturn, 62, 0, 0, 0, [], []))]]
noncomputable abbrev zT_128 : zT := (11, zI_128, 1, 4) -- X11_sheet
noncomputable def zI_129 : List (List (Nat × zE)) := [[(0, (.iload_n 1, 1, 0, 0, 0, [], [])), (1, (.invokestatic 282, 4, 0, 0, 0, [], [])), (4, (.ifCond .ne 5, 7, 9, 0, 0, [], [])), (7, (.iconst (-1), 8, 0, (-1), 0, [], [])), (8, (.ireturn, 9, 0, 0, 0, [], [])), (9, (.aload_n 0, 10, 0, 0, 0, [], [])), (10, (.getfield 53, 13, 0, 0, 0, [], [])), (13, (.getfield 285, 16, 0, 0, 0, [], [])), (16, (.iload_n 1, 17, 0, 0, 0, [], [])), (17, (.iaload, 18, 0, 0, 0, [], [])), (18, (.iconst (-1), 19, 0, (-1), 0, [], [])), (19, (.if_icmp .ne 6, 22, 25, 0, 0, [], [])), (22, (.bipush (-11), 24, 0, (-11), 0, [], [])), (24, (.ireturn, 25, 0, 0, 0, [], [])), (25, (.aload_n 0, 26, 0, 0, 0, [], [])), (26, (.getfield 53, 29, 0, 0, 0, [], [])), (29, (.iload_n 1, 30, 0, 0, 0, [], [])), (30, (.iload_n 2, 31, 0, 0, 0, [], [])), (31, (.invokevirtual 292, 34, 0, 0, 0, [], []))],
  [(34, (.ifCond .ne 6, 37, 40, 0, 0, [], [])), (37, (.bipush (-12), 39, 0, (-12), 0, [], [])), (39, (.ireturn, 40, 0, 0, 0, [], [])), (40, (.aload_n 0, 41, 0, 0, 0, [], [])), (41, (.getfield 53, 44, 0, 0, 0, [], [])), (44, (.getfield 295, 47, 0, 0, 0, [], [])), (47, (.iload_n 1, 48, 0, 0, 0, [], [])), (48, (.aaload, 49, 0, 0, 0, [], [])), (49, (.iload_n 2, 50, 0, 0, 0, [], [])), (50, (.aload_n 0, 51, 0, 0, 0, [], [])), (51, (.getfield 53, 54, 0, 0, 0, [], [])), (54, (.getfield 285, 57, 0, 0, 0, [], [])), (57, (.iload_n 1, 58, 0, 0, 0, [], [])), (58, (.iaload, 59, 0, 0, 0, [], [])), (59, (.iload_n 3, 60, 0, 0, 0, [], [])), (60, (.invokestatic 299, 63, 0, 0, 0, [], [])), (63, (.lastore, 64, 0, 0, 0, [], []))],
  [(64, (.iconst 1, 65, 0, 1, 0, [], [])), (65, (.ireturn, 66, 0, 0, 0, [], []))]]
noncomputable abbrev zT_129 : zT := (11, zI_129, 1, 4) -- X11_write
noncomputable def zI_130 : List (List (Nat × zE)) := [[(0, (.iload_n 1, 1, 0, 0, 0, [], [])), (1, (.invokestatic 282, 4, 0, 0, 0, [], [])), (4, (.ifCond .eq 12, 7, 16, 0, 0, [], [])), (7, (.iload_n 2, 8, 0, 0, 0, [], [])), (8, (.iconst 0, 9, 0, 0, 0, [], [])), (9, (.iconst 4, 10, 0, 4, 0, [], [])), (10, (.invokestatic 77, 13, 0, 0, 0, [], [])), (13, (.ifCond .ne 5, 16, 18, 0, 0, [], [])), (16, (.iconst (-1), 17, 0, (-1), 0, [], [])), (17, (.ireturn, 18, 0, 0, 0, [], [])), (18, (.aload_n 0, 19, 0, 0, 0, [], [])), (19, (.getfield 53, 22, 0, 0, 0, [], [])), (22, (.iload_n 1, 23, 0, 0, 0, [], [])), (23, (.iload_n 2, 24, 0, 0, 0, [], [])), (24, (.invokevirtual 303, 27, 0, 0, 0, [], [])), (27, (.istore 4, 29, 0, 0, 0, [], [])), (29, (.iload 4, 31, 0, 0, 0, [], [])), (31, (.ifCond .eq 6, 34, 37, 0, 0, [], []))],
  [(34, (.iload 4, 36, 0, 0, 0, [], [])), (36, (.ireturn, 37, 0, 0, 0, [], [])), (37, (.aload_n 0, 38, 0, 0, 0, [], [])), (38, (.getfield 53, 41, 0, 0, 0, [], [])), (41, (.iload_n 1, 42, 0, 0, 0, [], [])), (42, (.iload_n 3, 43, 0, 0, 0, [], [])), (43, (.invokevirtual 292, 46, 0, 0, 0, [], [])), (46, (.ifCond .ne 6, 49, 52, 0, 0, [], [])), (49, (.bipush (-12), 51, 0, (-12), 0, [], [])), (51, (.ireturn, 52, 0, 0, 0, [], [])), (52, (.aload_n 0, 53, 0, 0, 0, [], [])), (53, (.getfield 53, 56, 0, 0, 0, [], [])), (56, (.getfield 295, 59, 0, 0, 0, [], [])), (59, (.iload_n 1, 60, 0, 0, 0, [], [])), (60, (.aaload, 61, 0, 0, 0, [], [])), (61, (.iload_n 3, 62, 0, 0, 0, [], [])), (62, (.laload, 63, 0, 0, 0, [], [])), (63, (.l2i, 64, 0, 0, 0, [], []))],
  [(64, (.ireturn, 65, 0, 0, 0, [], []))]]
noncomputable abbrev zT_130 : zT := (11, zI_130, 1, 5) -- X11_item
noncomputable def zI_131 : List (List (Nat × zE)) := [[(0, (.aload_n 0, 1, 0, 0, 0, [], [])), (1, (.getfield 10, 4, 0, 0, 0, [], [])), (4, (.getfield 149, 7, 0, 0, 0, [], [])), (7, (.iload_n 1, 8, 0, 0, 0, [], [])), (8, (.invokevirtual 160, 11, 0, 0, 0, [], [])), (11, (.ifCond .eq 21, 14, 32, 0, 0, [], [])), (14, (.iload_n 2, 15, 0, 0, 0, [], [])), (15, (.invokestatic 282, 18, 0, 0, 0, [], [])), (18, (.ifCond .eq 14, 21, 32, 0, 0, [], [])), (21, (.iload 4, 23, 0, 0, 0, [], [])), (23, (.iconst 0, 24, 0, 0, 0, [], [])), (24, (.bipush 20, 26, 0, 20, 0, [], [])), (26, (.invokestatic 77, 29, 0, 0, 0, [], [])), (29, (.ifCond .ne 5, 32, 34, 0, 0, [], []))],
  [(32, (.iconst (-1), 33, 0, (-1), 0, [], [])), (33, (.ireturn, 34, 0, 0, 0, [], [])), (34, (.aload_n 0, 35, 0, 0, 0, [], [])), (35, (.getfield 53, 38, 0, 0, 0, [], [])), (38, (.iload_n 2, 39, 0, 0, 0, [], [])), (39, (.iconst 0, 40, 0, 0, 0, [], [])), (40, (.invokevirtual 303, 43, 0, 0, 0, [], [])), (43, (.istore 5, 45, 0, 0, 0, [], [])), (45, (.iload 5, 47, 0, 0, 0, [], [])), (47, (.ifCond .eq 6, 50, 53, 0, 0, [], [])), (50, (.iload 5, 52, 0, 0, 0, [], [])), (52, (.ireturn, 53, 0, 0, 0, [], [])), (53, (.iconst 0, 54, 0, 0, 0, [], [])), (54, (.istore 6, 56, 0, 0, 0, [], [])), (56, (.iconst 0, 57, 0, 0, 0, [], [])), (57, (.istore 7, 59, 0, 0, 0, [], [])), (59, (.iload 7, 61, 0, 0, 0, [], [true, true, true, true, true, false, true, true, false])), (61, (.iload 4, 63, 0, 0, 0, [], [])), (63, (.if_icmp .ge 76, 66, 139, 0, 0, [], []))],
  [(66, (.aload_n 0, 67, 0, 0, 0, [], [])), (67, (.getfield 53, 70, 0, 0, 0, [], [])), (70, (.iload_n 2, 71, 0, 0, 0, [], [])), (71, (.iload_n 3, 72, 0, 0, 0, [], [])), (72, (.iload 7, 74, 0, 0, 0, [], [])), (74, (.iadd, 75, 0, 0, 0, [], [])), (75, (.invokevirtual 292, 78, 0, 0, 0, [], [])), (78, (.ifCond .ne 6, 81, 84, 0, 0, [], [])), (81, (.bipush (-12), 83, 0, (-12), 0, [], [])), (83, (.ireturn, 84, 0, 0, 0, [], [])), (84, (.aload_n 0, 85, 0, 0, 0, [], [])), (85, (.getfield 53, 88, 0, 0, 0, [], [])), (88, (.getfield 295, 91, 0, 0, 0, [], [])), (91, (.iload_n 2, 92, 0, 0, 0, [], [])), (92, (.aaload, 93, 0, 0, 0, [], [])), (93, (.iload_n 3, 94, 0, 0, 0, [], [])), (94, (.iload 7, 96, 0, 0, 0, [], []))],
  [(96, (.iadd, 97, 0, 0, 0, [], [])), (97, (.laload, 98, 0, 0, 0, [], [])), (98, (.l2i, 99, 0, 0, 0, [], [])), (99, (.istore 8, 101, 0, 0, 0, [], [])), (101, (.aload_n 0, 102, 0, 0, 0, [], [])), (102, (.getfield 10, 105, 0, 0, 0, [], [])), (105, (.getfield 68, 108, 0, 0, 0, [], [])), (108, (.iload 8, 110, 0, 0, 0, [], [])), (110, (.invokevirtual 85, 113, 0, 0, 0, [], [])), (113, (.ifCond .eq 20, 116, 133, 0, 0, [], [])), (116, (.aload_n 0, 117, 0, 0, 0, [], [])), (117, (.getfield 10, 120, 0, 0, 0, [], [])), (120, (.getfield 149, 123, 0, 0, 0, [], [])), (123, (.getfield 167, 126, 0, 0, 0, [], [])), (126, (.iload_n 1, 127, 0, 0, 0, [], [])), (127, (.iload 8, 129, 0, 0, 0, [], []))],
  [(129, (.iastore, 130, 0, 0, 0, [], [])), (130, (.iinc 6 1, 133, 0, 1, 0, [], [])), (133, (.iinc 7 1, 136, 0, 1, 0, [], [])), (136, (.goto (-77), 139, 59, 0, 0, [], [])), (139, (.iload 6, 141, 0, 0, 0, [], [])), (141, (.ireturn, 142, 0, 0, 0, [], []))]]
noncomputable abbrev zT_131 : zT := (11, zI_131, 1, 9) -- X11_climbs
noncomputable def zI_132 : List (List (Nat × zE)) := [[(0, (.iload_n 1, 1, 0, 0, 0, [], [])), (1, (.invokestatic 282, 4, 0, 0, 0, [], [])), (4, (.ifCond .ne 5, 7, 9, 0, 0, [], [])), (7, (.iconst (-1), 8, 0, (-1), 0, [], [])), (8, (.ireturn, 9, 0, 0, 0, [], [])), (9, (.iload_n 2, 10, 0, 0, 0, [], [])), (10, (.tableswitch 83 0 2 #[26, 53, 73], 36, 93, 0, 0, [(0, 36), (1, 63), (2, 83)], []))],
  [(36, (.aload_n 0, 37, 0, 0, 0, [], [])), (37, (.getfield 10, 40, 0, 0, 0, [], [])), (40, (.getfield 68, 43, 0, 0, 0, [], [])), (43, (.iload_n 3, 44, 0, 0, 0, [], [])), (44, (.invokevirtual 72, 47, 0, 0, 0, [], [])), (47, (.ifCond .ne 5, 50, 52, 0, 0, [], [])), (50, (.iconst (-1), 51, 0, (-1), 0, [], [])), (51, (.ireturn, 52, 0, 0, 0, [], [])), (52, (.aload_n 0, 53, 0, 0, 0, [], [])), (53, (.getfield 53, 56, 0, 0, 0, [], [])), (56, (.iload_n 1, 57, 0, 0, 0, [], [])), (57, (.iload_n 3, 58, 0, 0, 0, [], [])), (58, (.invokevirtual 306, 61, 0, 0, 0, [], [])), (61, (.iconst 1, 62, 0, 1, 0, [], [])), (62, (.ireturn, 63, 0, 0, 0, [], [])), (63, (.iload_n 3, 64, 0, 0, 0, [], []))],
  [(64, (.invokestatic 282, 67, 0, 0, 0, [], [])), (67, (.ifCond .ne 5, 70, 72, 0, 0, [], [])), (70, (.iconst (-1), 71, 0, (-1), 0, [], [])), (71, (.ireturn, 72, 0, 0, 0, [], [])), (72, (.aload_n 0, 73, 0, 0, 0, [], [])), (73, (.getfield 53, 76, 0, 0, 0, [], [])), (76, (.iload_n 1, 77, 0, 0, 0, [], [])), (77, (.iload_n 3, 78, 0, 0, 0, [], [])), (78, (.invokevirtual 309, 81, 0, 0, 0, [], [])), (81, (.iconst 1, 82, 0, 1, 0, [], [])), (82, (.ireturn, 83, 0, 0, 0, [], [])), (83, (.aload_n 0, 84, 0, 0, 0, [], [])), (84, (.getfield 53, 87, 0, 0, 0, [], [])), (87, (.iload_n 1, 88, 0, 0, 0, [], [])), (88, (.invokevirtual 312, 91, 0, 0, 0, [], [])), (91, (.iconst 1, 92, 0, 1, 0, [], [])), (92, (.ireturn, 93, 0, 0, 0, [], [])), (93, (.iconst (-1), 94, 0, (-1), 0, [], [])), (94, (.ireturn, 95, 0, 0, 0, [], []))]]
noncomputable abbrev zT_132 : zT := (11, zI_132, 1, 4) -- X11_shelf
noncomputable def zI_133 : List (List (Nat × zE)) := [[(0, (.iload_n 2, 1, 0, 0, 0, [], [])), (1, (.iconst 0, 2, 0, 0, 0, [], [])), (2, (.iconst 5, 3, 0, 5, 0, [], [])), (3, (.invokestatic 77, 6, 0, 0, 0, [], [])), (6, (.istore_n 3, 7, 0, 0, 0, [], [])), (7, (.iload_n 1, 8, 0, 0, 0, [], [])), (8, (.invokestatic 282, 11, 0, 0, 0, [], [])), (11, (.ifCond .eq 18, 14, 29, 0, 0, [], [])), (14, (.iload_n 3, 15, 0, 0, 0, [], [])), (15, (.ifCond .ne 16, 18, 31, 0, 0, [], [])), (18, (.iload_n 2, 19, 0, 0, 0, [], [])), (19, (.bipush 10, 21, 0, 10, 0, [], [])), (21, (.bipush 14, 23, 0, 14, 0, [], [])), (23, (.invokestatic 77, 26, 0, 0, 0, [], [])), (26, (.ifCond .ne 5, 29, 31, 0, 0, [], [])), (29, (.iconst (-1), 30, 0, (-1), 0, [], [])), (30, (.ireturn, 31, 0, 0, 0, [], [])), (31, (.aload_n 0, 32, 0, 0, 0, [], [true, true, true, true, false]))],
  [(32, (.getfield 53, 35, 0, 0, 0, [], [])), (35, (.iload_n 1, 36, 0, 0, 0, [], [])), (36, (.invokevirtual 315, 39, 0, 0, 0, [], [])), (39, (.ifCond .eq 34, 42, 73, 0, 0, [], [])), (42, (.aload_n 0, 43, 0, 0, 0, [], [])), (43, (.getfield 53, 46, 0, 0, 0, [], [])), (46, (.getfield 318, 49, 0, 0, 0, [], [])), (49, (.iload_n 1, 50, 0, 0, 0, [], [])), (50, (.iaload, 51, 0, 0, 0, [], [])), (51, (.iload_n 2, 52, 0, 0, 0, [], [])), (52, (.bipush 10, 54, 0, 10, 0, [], [])), (54, (.isub, 55, 0, 0, 0, [], [])), (55, (.if_icmp .ne 15, 58, 70, 0, 0, [], [])), (58, (.aload_n 0, 59, 0, 0, 0, [], [])), (59, (.getfield 53, 62, 0, 0, 0, [], [])), (62, (.getfield 321, 65, 0, 0, 0, [], []))],
  [(65, (.iload_n 1, 66, 0, 0, 0, [], [])), (66, (.iaload, 67, 0, 0, 0, [], [])), (67, (.goto 5, 70, 72, 0, 0, [], [])), (70, (.bipush (-13), 72, 0, (-13), 0, [], [])), (72, (.ireturn, 73, 0, 0, 0, [], [])), (73, (.aload_n 0, 74, 0, 0, 0, [], [])), (74, (.iload_n 1, 75, 0, 0, 0, [], [])), (75, (.invokevirtual 324, 78, 0, 0, 0, [], [])), (78, (.istore 4, 80, 0, 0, 0, [], [])), (80, (.iload 4, 82, 0, 0, 0, [], [])), (82, (.bipush (-9), 84, 0, (-9), 0, [], [])), (84, (.if_icmp .ne 6, 87, 90, 0, 0, [], [])), (87, (.bipush (-11), 89, 0, (-11), 0, [], [])), (89, (.ireturn, 90, 0, 0, 0, [], [])), (90, (.iload_n 3, 91, 0, 0, 0, [], [])), (91, (.ifCond .eq 28, 94, 119, 0, 0, [], [])), (94, (.aload_n 0, 95, 0, 0, 0, [], [])), (95, (.getfield 10, 98, 0, 0, 0, [], []))],
  [(98, (.getfield 68, 101, 0, 0, 0, [], [])), (101, (.getfield 92, 104, 0, 0, 0, [], [])), (104, (.iload 4, 106, 0, 0, 0, [], [])), (106, (.iaload, 107, 0, 0, 0, [], [])), (107, (.iload_n 2, 108, 0, 0, 0, [], [])), (108, (.invokestatic 327, 111, 0, 0, 0, [], [])), (111, (.ifCond .eq 8, 114, 119, 0, 0, [], [])), (114, (.iload 4, 116, 0, 0, 0, [], [])), (116, (.goto 5, 119, 121, 0, 0, [], [])), (119, (.bipush (-13), 121, 0, (-13), 0, [], [])), (121, (.ireturn, 122, 0, 0, 0, [], []))]]
noncomputable abbrev zT_133 : zT := (11, zI_133, 1, 5) -- X11_taken
noncomputable def zI_134 : List (List (Nat × zE)) := [[(0, (.aload_n 0, 1, 0, 0, 0, [], [])), (1, (.getfield 60, 4, 0, 0, 0, [], [])), (4, (.iconst 0, 5, 0, 0, 0, [], [])), (5, (.putfield 330, 8, 0, 0, 0, [], [])), (8, (.iload_n 1, 9, 0, 0, 0, [], [])), (9, (.invokestatic 282, 12, 0, 0, 0, [], [])), (12, (.ifCond .eq 12, 15, 24, 0, 0, [], [])), (15, (.iload_n 2, 16, 0, 0, 0, [], [])), (16, (.iconst 0, 17, 0, 0, 0, [], [])), (17, (.iconst 3, 18, 0, 3, 0, [], [])), (18, (.invokestatic 77, 21, 0, 0, 0, [], [])), (21, (.ifCond .ne 5, 24, 26, 0, 0, [], [])), (24, (.iconst 0, 25, 0, 0, 0, [], [])), (25, (.ireturn, 26, 0, 0, 0, [], [])), (26, (.aload_n 0, 27, 0, 0, 0, [], [])), (27, (.iload_n 1, 28, 0, 0, 0, [], [])), (28, (.invokevirtual 324, 31, 0, 0, 0, [], [])), (31, (.istore 4, 33, 0, 0, 0, [], []))],
  [(33, (.iload 4, 35, 0, 0, 0, [], [])), (35, (.bipush (-9), 37, 0, (-9), 0, [], [])), (37, (.if_icmp .ne 5, 40, 42, 0, 0, [], [])), (40, (.iconst 0, 41, 0, 0, 0, [], [])), (41, (.ireturn, 42, 0, 0, 0, [], [])), (42, (.aload_n 0, 43, 0, 0, 0, [], [])), (43, (.getfield 60, 46, 0, 0, 0, [], [])), (46, (.aload_n 0, 47, 0, 0, 0, [], [])), (47, (.getfield 10, 50, 0, 0, 0, [], [])), (50, (.getfield 68, 53, 0, 0, 0, [], [])), (53, (.getfield 92, 56, 0, 0, 0, [], [])), (56, (.iload 4, 58, 0, 0, 0, [], [])), (58, (.iaload, 59, 0, 0, 0, [], [])), (59, (.iload 4, 61, 0, 0, 0, [], [])), (61, (.aload_n 0, 62, 0, 0, 0, [], [])), (62, (.getfield 10, 65, 0, 0, 0, [], []))],
  [(65, (.getfield 68, 68, 0, 0, 0, [], [])), (68, (.getfield 99, 71, 0, 0, 0, [], [])), (71, (.iload 4, 73, 0, 0, 0, [], [])), (73, (.iaload, 74, 0, 0, 0, [], [])), (74, (.invokevirtual 333, 77, 0, 0, 0, [], [])), (77, (.iload_n 2, 78, 0, 0, 0, [], [])), (78, (.tableswitch 65 0 2 #[26, 39, 52], 104, 143, 0, 0, [(0, 104), (1, 117), (2, 130)], []))],
  [(104, (.aload_n 0, 105, 0, 0, 0, [], [])), (105, (.getfield 60, 108, 0, 0, 0, [], [])), (108, (.iload_n 3, 109, 0, 0, 0, [], [])), (109, (.invokevirtual 336, 112, 0, 0, 0, [], [])), (112, (.istore 5, 114, 0, 0, 0, [], [])), (114, (.goto 39, 117, 153, 0, 0, [], [])), (117, (.aload_n 0, 118, 0, 0, 0, [], [])), (118, (.getfield 60, 121, 0, 0, 0, [], [])), (121, (.iload_n 3, 122, 0, 0, 0, [], [])), (122, (.invokevirtual 339, 125, 0, 0, 0, [], [])), (125, (.istore 5, 127, 0, 0, 0, [], [])), (127, (.goto 26, 130, 153, 0, 0, [], []))],
  [(130, (.aload_n 0, 131, 0, 0, 0, [], [])), (131, (.getfield 60, 134, 0, 0, 0, [], [])), (134, (.iload_n 3, 135, 0, 0, 0, [], [])), (135, (.invokevirtual 342, 138, 0, 0, 0, [], [])), (138, (.istore 5, 140, 0, 0, 0, [], [])), (140, (.goto 13, 143, 153, 0, 0, [], [])), (143, (.aload_n 0, 144, 0, 0, 0, [], [])), (144, (.getfield 60, 147, 0, 0, 0, [], [])), (147, (.iload_n 3, 148, 0, 0, 0, [], [])), (148, (.invokevirtual 345, 151, 0, 0, 0, [], [])), (151, (.istore 5, 153, 0, 0, 0, [], [])), (153, (.aload_n 0, 154, 0, 0, 0, [], [])), (154, (.getfield 60, 157, 0, 0, 0, [], [])), (157, (.getfield 348, 160, 0, 0, 0, [], []))],
  [(160, (.ifCond .eq 8, 163, 168, 0, 0, [], [])), (163, (.bipush (-15), 165, 0, (-15), 0, [], [])), (165, (.goto 5, 168, 170, 0, 0, [], [])), (168, (.iload 5, 170, 0, 0, 0, [], [])), (170, (.ireturn, 171, 0, 0, 0, [], []))]]
noncomputable abbrev zT_134 : zT := (11, zI_134, 1, 6) -- X11_act
noncomputable def zI_135 : List (List (Nat × zE)) := [[(0, (.iload_n 1, 1, 0, 0, 0, [], [])), (1, (.iconst 0, 2, 0, 0, 0, [], [])), (2, (.aload_n 0, 3, 0, 0, 0, [], [])), (3, (.getfield 60, 6, 0, 0, 0, [], [])), (6, (.getfield 330, 9, 0, 0, 0, [], [])), (9, (.iconst 1, 10, 0, 1, 0, [], [])), (10, (.isub, 11, 0, 0, 0, [], [])), (11, (.invokestatic 77, 14, 0, 0, 0, [], [])), (14, (.ifCond .eq 15, 17, 29, 0, 0, [], [])), (17, (.aload_n 0, 18, 0, 0, 0, [], [])), (18, (.getfield 60, 21, 0, 0, 0, [], [])), (21, (.getfield 352, 24, 0, 0, 0, [], [])), (24, (.iload_n 1, 25, 0, 0, 0, [], [])), (25, (.iaload, 26, 0, 0, 0, [], [])), (26, (.goto 5, 29, 31, 0, 0, [], [])), (29, (.bipush (-3), 31, 0, (-3), 0, [], [])), (31, (.ireturn, 32, 0, 0, 0, [], []))]]
noncomputable abbrev zT_135 : zT := (11, zI_135, 1, 2) -- X11_trace
noncomputable def zI_136 : List (List (Nat × zE)) := [[(0, (.iload_n 1, 1, 0, 0, 0, [], [])), (1, (.tableswitch 114 0 6 #[43, 54, 68, 79, 90, 98, 106], 44, 115, 0, 0, [(0, 44), (1, 55), (2, 69), (3, 80), (4, 91), (5, 99), (6, 107)], []))],
  [(44, (.aload_n 0, 45, 0, 0, 0, [], [])), (45, (.getfield 10, 48, 0, 0, 0, [], [])), (48, (.getfield 68, 51, 0, 0, 0, [], [])), (51, (.getfield 81, 54, 0, 0, 0, [], [])), (54, (.ireturn, 55, 0, 0, 0, [], [])), (55, (.aload_n 0, 56, 0, 0, 0, [], [])), (56, (.getfield 10, 59, 0, 0, 0, [], [])), (59, (.getfield 68, 62, 0, 0, 0, [], [])), (62, (.getfield 134, 65, 0, 0, 0, [], []))],
  [(65, (.getfield 145, 68, 0, 0, 0, [], [])), (68, (.ireturn, 69, 0, 0, 0, [], [])), (69, (.aload_n 0, 70, 0, 0, 0, [], [])), (70, (.getfield 10, 73, 0, 0, 0, [], [])), (73, (.getfield 149, 76, 0, 0, 0, [], [])), (76, (.getfield 153, 79, 0, 0, 0, [], [])), (79, (.ireturn, 80, 0, 0, 0, [], [])), (80, (.aload_n 0, 81, 0, 0, 0, [], [])), (81, (.getfield 10, 84, 0, 0, 0, [], [])), (84, (.getfield 234, 87, 0, 0, 0, [], [])), (87, (.getfield 238, 90, 0, 0, 0, [], [])), (90, (.ireturn, 91, 0, 0, 0, [], [])), (91, (.aload_n 0, 92, 0, 0, 0, [], [])), (92, (.getfield 46, 95, 0, 0, 0, [], [])), (95, (.getfield 270, 98, 0, 0, 0, [], []))],
  [(98, (.ireturn, 99, 0, 0, 0, [], [])), (99, (.aload_n 0, 100, 0, 0, 0, [], [])), (100, (.getfield 25, 103, 0, 0, 0, [], [])), (103, (.getfield 125, 106, 0, 0, 0, [], [])), (106, (.ireturn, 107, 0, 0, 0, [], [])), (107, (.aload_n 0, 108, 0, 0, 0, [], [])), (108, (.getfield 60, 111, 0, 0, 0, [], [])), (111, (.getfield 330, 114, 0, 0, 0, [], [])), (114, (.ireturn, 115, 0, 0, 0, [], [])), (115, (.iconst (-1), 116, 0, (-1), 0, [], [])), (116, (.ireturn, 117, 0, 0, 0, [], []))]]
noncomputable abbrev zT_136 : zT := (11, zI_136, 1, 2) -- X11_many
noncomputable def zI_137 : List (List (Nat × zE)) := [[(0, (.aload_n 0, 1, 0, 0, 0, [], [])), (1, (.getfield 53, 4, 0, 0, 0, [], [])), (4, (.iload_n 1, 5, 0, 0, 0, [], [])), (5, (.invokevirtual 355, 8, 0, 0, 0, [], [])), (8, (.ifCond .eq 29, 11, 37, 0, 0, [], [])), (11, (.aload_n 0, 12, 0, 0, 0, [], [])), (12, (.getfield 10, 15, 0, 0, 0, [], [])), (15, (.getfield 68, 18, 0, 0, 0, [], [])), (18, (.aload_n 0, 19, 0, 0, 0, [], [])), (19, (.getfield 53, 22, 0, 0, 0, [], [])), (22, (.getfield 321, 25, 0, 0, 0, [], [])), (25, (.iload_n 1, 26, 0, 0, 0, [], [])), (26, (.iaload, 27, 0, 0, 0, [], [])), (27, (.invokevirtual 72, 30, 0, 0, 0, [], [])), (30, (.ifCond .eq 7, 33, 37, 0, 0, [], []))],
  [(33, (.iconst 1, 34, 0, 1, 0, [], [])), (34, (.goto 4, 37, 38, 0, 0, [], [])), (37, (.iconst 0, 38, 0, 0, 0, [], [])), (38, (.istore_n 2, 39, 0, 0, 0, [], [])), (39, (.iload_n 2, 40, 0, 0, 0, [], [])), (40, (.ifCond .eq 15, 43, 55, 0, 0, [], [])), (43, (.aload_n 0, 44, 0, 0, 0, [], [])), (44, (.getfield 53, 47, 0, 0, 0, [], [])), (47, (.getfield 321, 50, 0, 0, 0, [], [])), (50, (.iload_n 1, 51, 0, 0, 0, [], [])), (51, (.iaload, 52, 0, 0, 0, [], [])), (52, (.goto 5, 55, 57, 0, 0, [], [])), (55, (.bipush (-9), 57, 0, (-9), 0, [], [])), (57, (.ireturn, 58, 0, 0, 0, [], []))]]
noncomputable abbrev zT_137 : zT := (11, zI_137, 1, 3) -- X11_boughOn
noncomputable def zI_138 : List (List (Nat × zE)) := [[(0, (.iload_n 0, 1, 0, 0, 0, [], [])), (1, (.tableswitch 53 0 4 #[35, 39, 53, 53, 43], 36, 54, 0, 0, [(0, 36), (1, 40), (2, 54), (3, 54), (4, 44)], []))],
  [(36, (.iload_n 1, 37, 0, 0, 0, [], [])), (37, (.i2b, 38, 0, 0, 0, [], [])), (38, (.i2l, 39, 0, 0, 0, [], [])), (39, (.lreturn, 40, 0, 0, 0, [], [])), (40, (.iload_n 1, 41, 0, 0, 0, [], [])), (41, (.i2s, 42, 0, 0, 0, [], [])), (42, (.i2l, 43, 0, 0, 0, [], [])), (43, (.lreturn, 44, 0, 0, 0, [], [])), (44, (.iload_n 1, 45, 0, 0, 0, [], [])), (45, (.ifCond .eq 7, 48, 52, 0, 0, [], [])), (48, (.lconst 1, 49, 0, 0, 1, [], [])), (49, (.goto 4, 52, 53, 0, 0, [], [])), (52, (.lconst 0, 53, 0, 0, 0, [], [])), (53, (.lreturn, 54, 0, 0, 0, [], [])), (54, (.iload_n 1, 55, 0, 0, 0, [], [])), (55, (.i2l, 56, 0, 0, 0, [], [])), (56, (.lreturn, 57, 0, 0, 0, [], []))]]
noncomputable abbrev zT_138 : zT := (11, zI_138, 2, 2) -- X11_narrowed
noncomputable def zI_139 : List (List (Nat × zE)) := [[(0, (.aload_n 0, 1, 0, 0, 0, [], [])), (1, (.getfield 19, 4, 0, 0, 0, [], [])), (4, (.aload_n 0, 5, 0, 0, 0, [], [])), (5, (.getfield 10, 8, 0, 0, 0, [], [])), (8, (.invokevirtual 183, 11, 0, 0, 0, [], [])), (11, (.aload_n 0, 12, 0, 0, 0, [], [])), (12, (.iconst 1, 13, 0, 1, 0, [], [])), (13, (.putfield 358, 16, 0, 0, 0, [], [])), (16, (.iconst 1, 17, 0, 1, 0, [], [])), (17, (.ireturn, 18, 0, 0, 0, [], []))]]
noncomputable abbrev zT_139 : zT := (11, zI_139, 1, 1) -- X11_keep
noncomputable def zI_140 : List (List (Nat × zE)) := [[(0, (.aload_n 0, 1, 0, 0, 0, [], [])), (1, (.getfield 358, 4, 0, 0, 0, [], [])), (4, (.ifCond .ne 6, 7, 10, 0, 0, [], [])), (7, (.bipush (-3), 9, 0, (-3), 0, [], [])), (9, (.ireturn, 10, 0, 0, 0, [], [])), (10, (.aload_n 0, 11, 0, 0, 0, [], [])), (11, (.getfield 10, 14, 0, 0, 0, [], [])), (14, (.aload_n 0, 15, 0, 0, 0, [], [])), (15, (.getfield 19, 18, 0, 0, 0, [], [])), (18, (.invokevirtual 183, 21, 0, 0, 0, [], [])), (21, (.aload_n 0, 22, 0, 0, 0, [], [])), (22, (.getfield 10, 25, 0, 0, 0, [], [])), (25, (.getfield 68, 28, 0, 0, 0, [], [])), (28, (.getfield 81, 31, 0, 0, 0, [], [])), (31, (.ireturn, 32, 0, 0, 0, [], []))]]
noncomputable abbrev zT_140 : zT := (11, zI_140, 1, 1) -- X11_again
noncomputable def zI_141 : List (List (Nat × zE)) := [[(0, (.iload_n 0, 1, 0, 0, 0, [], [])), (1, (.iload_n 1, 2, 0, 0, 0, [], [])), (2, (.if_icmp .lt 12, 5, 14, 0, 0, [], [])), (5, (.iload_n 0, 6, 0, 0, 0, [], [])), (6, (.iload_n 2, 7, 0, 0, 0, [], [])), (7, (.if_icmp .gt 7, 10, 14, 0, 0, [], [])), (10, (.iconst 1, 11, 0, 1, 0, [], [])), (11, (.goto 4, 14, 15, 0, 0, [], [])), (14, (.iconst 0, 15, 0, 0, 0, [], [])), (15, (.ireturn, 16, 0, 0, 0, [], []))]]
noncomputable abbrev zT_141 : zT := (11, zI_141, 3, 3) -- X11_isWithin
noncomputable def zI_142 : List (List (Nat × zE)) := [[(0, (.iload_n 0, 1, 0, 0, 0, [], [])), (1, (.iconst 1, 2, 0, 1, 0, [], [])), (2, (.iconst 5, 3, 0, 5, 0, [], [])), (3, (.invokestatic 77, 6, 0, 0, 0, [], [])), (6, (.ireturn, 7, 0, 0, 0, [], []))]]
noncomputable abbrev zT_142 : zT := (11, zI_142, 3, 1) -- X11_isBoughKind
noncomputable def zI_143 : List (List (Nat × zE)) := [[(0, (.iload_n 0, 1, 0, 0, 0, [], [])), (1, (.ifCond .eq 8, 4, 9, 0, 0, [], [])), (4, (.iload_n 0, 5, 0, 0, 0, [], [])), (5, (.iconst 1, 6, 0, 1, 0, [], [])), (6, (.if_icmp .ne 7, 9, 13, 0, 0, [], [])), (9, (.iconst 1, 10, 0, 1, 0, [], [])), (10, (.goto 4, 13, 14, 0, 0, [], [])), (13, (.iconst 0, 14, 0, 0, 0, [], [])), (14, (.ireturn, 15, 0, 0, 0, [], []))]]
noncomputable abbrev zT_143 : zT := (11, zI_143, 3, 1) -- X11_isSide
noncomputable def zI_144 : List (List (Nat × zE)) := [[(0, (.iload_n 0, 1, 0, 0, 0, [], [])), (1, (.iconst 0, 2, 0, 0, 0, [], [])), (2, (.iconst 3, 3, 0, 3, 0, [], [])), (3, (.invokestatic 77, 6, 0, 0, 0, [], [])), (6, (.ireturn, 7, 0, 0, 0, [], []))]]
noncomputable abbrev zT_144 : zT := (11, zI_144, 3, 1) -- X11_isPlace
noncomputable def zI_145 : List (List (Nat × zE)) := [[(0, (.iload_n 0, 1, 0, 0, 0, [], [])), (1, (.iload_n 1, 2, 0, 0, 0, [], [])), (2, (.ishr, 3, 0, 0, 0, [], [])), (3, (.iconst 1, 4, 0, 1, 0, [], [])), (4, (.iand, 5, 0, 0, 0, [], [])), (5, (.ifCond .eq 7, 8, 12, 0, 0, [], [])), (8, (.iconst 1, 9, 0, 1, 0, [], [])), (9, (.goto 4, 12, 13, 0, 0, [], [])), (12, (.iconst 0, 13, 0, 0, 0, [], [])), (13, (.ireturn, 14, 0, 0, 0, [], []))]]
noncomputable abbrev zT_145 : zT := (11, zI_145, 3, 2) -- X11_isIn
noncomputable def zI_146 : List (List (Nat × zE)) := [[(0, (.iload_n 1, 1, 0, 0, 0, [], [])), (1, (.ifCond .eq 28, 4, 29, 0, 0, [], [])), (4, (.iload_n 1, 5, 0, 0, 0, [], [])), (5, (.iload_n 0, 6, 0, 0, 0, [], [])), (6, (.if_icmp .eq 23, 9, 29, 0, 0, [], [])), (9, (.iload_n 1, 10, 0, 0, 0, [], [])), (10, (.iconst 2, 11, 0, 2, 0, [], [])), (11, (.if_icmp .ne 8, 14, 19, 0, 0, [], [])), (14, (.iload_n 0, 15, 0, 0, 0, [], [])), (15, (.iconst 3, 16, 0, 3, 0, [], [])), (16, (.if_icmp .eq 13, 19, 29, 0, 0, [], [])), (19, (.iload_n 1, 20, 0, 0, 0, [], [])), (20, (.iconst 4, 21, 0, 4, 0, [], [])), (21, (.if_icmp .ne 12, 24, 33, 0, 0, [], [])), (24, (.iload_n 0, 25, 0, 0, 0, [], [])), (25, (.iconst 5, 26, 0, 5, 0, [], [])), (26, (.if_icmp .ne 7, 29, 33, 0, 0, [], [])), (29, (.iconst 1, 30, 0, 1, 0, [], [])), (30, (.goto 4, 33, 34, 0, 0, [], []))],
  [(33, (.iconst 0, 34, 0, 0, 0, [], [])), (34, (.ireturn, 35, 0, 0, 0, [], []))]]
noncomputable abbrev zT_146 : zT := (11, zI_146, 3, 2) -- X11_isKindOf
noncomputable def zI_147 : List (List (Nat × zE)) := [[(0, (.aload_n 0, 1, 0, 0, 0, [], [])), (1, (.iload_n 1, 2, 0, 0, 0, [], [])), (2, (.iaload, 3, 0, 0, 0, [], [])), (3, (.istore_n 3, 4, 0, 0, 0, [], [])), (4, (.aload_n 0, 5, 0, 0, 0, [], [])), (5, (.iload_n 1, 6, 0, 0, 0, [], [])), (6, (.iload_n 2, 7, 0, 0, 0, [], [])), (7, (.iastore, 8, 0, 0, 0, [], [])), (8, (.iload_n 3, 9, 0, 0, 0, [], [])), (9, (.ireturn, 10, 0, 0, 0, [], []))]]
noncomputable abbrev zT_147 : zT := (11, zI_147, 1, 4) -- X11_replaced
noncomputable def zI_148 : List (List (Nat × zE)) := [[(0, (.aload_n 0, 1, 0, 0, 0, [], [])), (1, (.iconst 0, 2, 0, 0, 0, [], [])), (2, (.aload_n 1, 3, 0, 0, 0, [], [])), (3, (.iconst 0, 4, 0, 0, 0, [], [])), (4, (.aload_n 0, 5, 0, 0, 0, [], [])), (5, (.arraylength, 6, 0, 0, 0, [], [])), (6, (.aload_n 1, 7, 0, 0, 0, [], [])), (7, (.arraylength, 8, 0, 0, 0, [], [])), (8, (.invokestatic 361, 11, 0, 0, 0, [], [])), (11, (.invokestatic 366, 14, 0, 0, 0, [], [])), (14, (.return_, 15, 0, 0, 0, [], []))]]
noncomputable abbrev zT_148 : zT := (11, zI_148, 0, 2) -- X11_copyRow
noncomputable def zI_149 : List (List (Nat × zE)) := [[(0, (.lload_n 0, 1, 0, 0, 0, [], [])), (1, (.lload_n 2, 2, 0, 0, 0, [], [])), (2, (.lcmp, 3, 0, 0, 0, [], [])), (3, (.ifCond .lt 14, 6, 17, 0, 0, [], [])), (6, (.lload_n 0, 7, 0, 0, 0, [], [])), (7, (.lload 4, 9, 0, 0, 0, [], [])), (9, (.lcmp, 10, 0, 0, 0, [], [])), (10, (.ifCond .gt 7, 13, 17, 0, 0, [], [])), (13, (.iconst 1, 14, 0, 1, 0, [], [])), (14, (.goto 4, 17, 18, 0, 0, [], [])), (17, (.iconst 0, 18, 0, 0, 0, [], [])), (18, (.ireturn, 19, 0, 0, 0, [], []))]]
noncomputable abbrev zT_149 : zT := (12, zI_149, 3, 6) -- X12_in
noncomputable def zI_150 : List (List (Nat × zE)) := [[(0, (.iload_n 1, 1, 0, 0, 0, [], [])), (1, (.i2l, 2, 0, 0, 0, [], [])), (2, (.lconst 0, 3, 0, 0, 0, [], [])), (3, (.aload_n 0, 4, 0, 0, 0, [], [])), (4, (.getfield 7, 7, 0, 0, 0, [], [])), (7, (.iconst 0, 8, 0, 0, 0, [], [])), (8, (.iaload, 9, 1, 0, 0, [], [])), (9, (.iconst 1, 10, 0, 1, 0, [], [])), (10, (.isub, 11, 0, 0, 0, [], [])), (11, (.i2l, 12, 0, 0, 0, [], [])), (12, (.invokestatic 67, 15, 0, 0, 0, [], [])), (15, (.ireturn, 16, 0, 0, 0, [], []))]]
noncomputable abbrev zT_150 : zT := (12, zI_150, 3, 2) -- X12_isBough
noncomputable def zI_151 : List (List (Nat × zE)) := [[(0, (.iload_n 1, 1, 0, 0, 0, [], [])), (1, (.i2l, 2, 0, 0, 0, [], [])), (2, (.lconst 0, 3, 0, 0, 0, [], [])), (3, (.aload_n 0, 4, 0, 0, 0, [], [])), (4, (.getfield 7, 7, 0, 0, 0, [], [])), (7, (.iconst 2, 8, 0, 2, 0, [], [])), (8, (.iaload, 9, 3, 0, 0, [], [])), (9, (.iconst 1, 10, 0, 1, 0, [], [])), (10, (.isub, 11, 0, 0, 0, [], [])), (11, (.i2l, 12, 0, 0, 0, [], [])), (12, (.invokestatic 67, 15, 0, 0, 0, [], [])), (15, (.ireturn, 16, 0, 0, 0, [], []))]]
noncomputable abbrev zT_151 : zT := (12, zI_151, 3, 2) -- X12_isPerson
noncomputable def zI_152 : List (List (Nat × zE)) := [[(0, (.iload_n 0, 1, 0, 0, 0, [], [])), (1, (.iload_n 1, 2, 0, 0, 0, [], [])), (2, (.ishr, 3, 0, 0, 0, [], [])), (3, (.iconst 1, 4, 0, 1, 0, [], [])), (4, (.iand, 5, 0, 0, 0, [], [])), (5, (.iconst 1, 6, 0, 1, 0, [], [])), (6, (.if_icmp .ne 7, 9, 13, 0, 0, [], [])), (9, (.iconst 1, 10, 0, 1, 0, [], [])), (10, (.goto 4, 13, 14, 0, 0, [], [])), (13, (.iconst 0, 14, 0, 0, 0, [], [])), (14, (.ireturn, 15, 0, 0, 0, [], []))]]
noncomputable abbrev zT_152 : zT := (12, zI_152, 3, 2) -- X12_has
noncomputable def zI_153 : List (List (Nat × zE)) := [[(0, (.iconst 0, 1, 0, 0, 0, [], [])), (1, (.istore_n 1, 2, 0, 0, 0, [], [])), (2, (.iload_n 1, 3, 0, 0, 0, [], [true, true])), (3, (.sipush 320, 6, 0, 320, 0, [], [])), (6, (.if_icmp .ge 21, 9, 27, 0, 0, [], [])), (9, (.aload_n 0, 10, 0, 0, 0, [], [])), (10, (.getfield 16, 13, 0, 0, 0, [], [])), (13, (.iload_n 1, 14, 0, 0, 0, [], [])), (14, (.aload_n 0, 15, 0, 0, 0, [], [])), (15, (.getfield 7, 18, 0, 0, 0, [], [])), (18, (.iload_n 1, 19, 0, 0, 0, [], [])), (19, (.iaload, 20, 0, 0, 0, [], [])), (20, (.iastore, 21, 0, 0, 0, [], [])), (21, (.iinc 1 1, 24, 0, 1, 0, [], [])), (24, (.goto (-22), 27, 2, 0, 0, [], [])), (27, (.return_, 28, 0, 0, 0, [], []))]]
noncomputable abbrev zT_153 : zT := (12, zI_153, 0, 2) -- X12_puts
noncomputable def zI_154 : List (List (Nat × zE)) := [[(0, (.iconst 0, 1, 0, 0, 0, [], [])), (1, (.istore_n 1, 2, 0, 0, 0, [], [])), (2, (.iload_n 1, 3, 0, 0, 0, [], [true, true])), (3, (.sipush 320, 6, 0, 320, 0, [], [])), (6, (.if_icmp .ge 21, 9, 27, 0, 0, [], [])), (9, (.aload_n 0, 10, 0, 0, 0, [], [])), (10, (.getfield 7, 13, 0, 0, 0, [], [])), (13, (.iload_n 1, 14, 0, 0, 0, [], [])), (14, (.aload_n 0, 15, 0, 0, 0, [], [])), (15, (.getfield 16, 18, 0, 0, 0, [], [])), (18, (.iload_n 1, 19, 0, 0, 0, [], [])), (19, (.iaload, 20, 0, 0, 0, [], [])), (20, (.iastore, 21, 0, 0, 0, [], [])), (21, (.iinc 1 1, 24, 0, 1, 0, [], [])), (24, (.goto (-22), 27, 2, 0, 0, [], [])), (27, (.return_, 28, 0, 0, 0, [], []))]]
noncomputable abbrev zT_154 : zT := (12, zI_154, 0, 2) -- X12_putsBack
noncomputable def zI_155 : List (List (Nat × zE)) := [[(0, (.bipush 7, 2, 0, 7, 0, [], [])), (2, (.iconst 5, 3, 0, 5, 0, [], [])), (3, (.iload_n 0, 4, 0, 0, 0, [], [])), (4, (.imul, 5, 0, 0, 0, [], [])), (5, (.iadd, 6, 0, 0, 0, [], [])), (6, (.iload_n 1, 7, 0, 0, 0, [], [])), (7, (.iadd, 8, 0, 0, 0, [], [])), (8, (.ireturn, 9, 0, 0, 0, [], []))]]
noncomputable abbrev zT_155 : zT := (12, zI_155, 1, 2) -- X12_at
noncomputable def zI_156 : List (List (Nat × zE)) := [[(0, (.aload_n 0, 1, 0, 0, 0, [], [])), (1, (.getfield 7, 4, 0, 0, 0, [], [])), (4, (.iload_n 1, 5, 0, 0, 0, [], [])), (5, (.iload_n 2, 6, 0, 0, 0, [], [])), (6, (.invokestatic 71, 9, 0, 0, 0, [], [])), (9, (.iaload, 10, 0, 0, 0, [], [])), (10, (.ireturn, 11, 0, 0, 0, [], []))]]
noncomputable abbrev zT_156 : zT := (12, zI_156, 1, 3) -- X12_its
noncomputable def zI_157 : List (List (Nat × zE)) := [[(0, (.aload_n 0, 1, 0, 0, 0, [], [])), (1, (.iload_n 1, 2, 0, 0, 0, [], [])), (2, (.iconst 4, 3, 0, 4, 0, [], [])), (3, (.invokevirtual 75, 6, 0, 0, 0, [], [])), (6, (.iconst 1, 7, 0, 1, 0, [], [])), (7, (.if_icmp .ne 7, 10, 14, 0, 0, [], [])), (10, (.iconst 1, 11, 0, 1, 0, [], [])), (11, (.goto 4, 14, 15, 0, 0, [], [])), (14, (.iconst 0, 15, 0, 0, 0, [], [])), (15, (.ireturn, 16, 0, 0, 0, [], []))]]
noncomputable abbrev zT_157 : zT := (12, zI_157, 3, 2) -- X12_isBroken
noncomputable def zI_158 : List (List (Nat × zE)) := [[(0, (.aload_n 0, 1, 0, 0, 0, [], [])), (1, (.iload_n 1, 2, 0, 0, 0, [], [])), (2, (.iconst 1, 3, 0, 1, 0, [], [])), (3, (.invokevirtual 75, 6, 0, 0, 0, [], [])), (6, (.iconst 1, 7, 0, 1, 0, [], [])), (7, (.isub, 8, 0, 0, 0, [], [])), (8, (.ireturn, 9, 0, 0, 0, [], []))]]
noncomputable abbrev zT_158 : zT := (12, zI_158, 1, 2) -- X12_below
noncomputable def zI_159 : List (List (Nat × zE)) := [[(0, (.iload_n 0, 1, 0, 0, 0, [], [])), (1, (.iconst 2, 2, 0, 2, 0, [], [])), (2, (.if_icmp .ne 15, 5, 17, 0, 0, [], [])), (5, (.iload_n 1, 6, 0, 0, 0, [], [])), (6, (.i2l, 7, 0, 0, 0, [], [])), (7, (.lconst 1, 8, 0, 0, 1, [], [])), (8, (.ldc2_w 78, 11, 0, 0, 9, [], [])), (11, (.invokestatic 67, 14, 0, 0, 0, [], [])), (14, (.ifCond .ne 20, 17, 34, 0, 0, [], [])), (17, (.iload_n 0, 18, 0, 0, 0, [], [])), (18, (.iconst 3, 19, 0, 3, 0, [], [])), (19, (.if_icmp .ne 19, 22, 38, 0, 0, [], [])), (22, (.iload_n 1, 23, 0, 0, 0, [], [])), (23, (.i2l, 24, 0, 0, 0, [], [])), (24, (.lconst 1, 25, 0, 0, 1, [], [])), (25, (.ldc2_w 80, 28, 0, 0, 999, [], [])), (28, (.invokestatic 67, 31, 0, 0, 0, [], [])), (31, (.ifCond .eq 7, 34, 38, 0, 0, [], []))],
  [(34, (.iconst 1, 35, 0, 1, 0, [], [])), (35, (.goto 4, 38, 39, 0, 0, [], [])), (38, (.iconst 0, 39, 0, 0, 0, [], [])), (39, (.ireturn, 40, 0, 0, 0, [], []))]]
noncomputable abbrev zT_159 : zT := (12, zI_159, 3, 2) -- X12_isPart
noncomputable def zI_160 : List (List (Nat × zE)) := [[(0, (.iload_n 1, 1, 0, 0, 0, [], [])), (1, (.i2l, 2, 0, 0, 0, [], [])), (2, (.lconst 1, 3, 0, 0, 1, [], [])), (3, (.ldc2_w 82, 6, 0, 0, 5, [], [])), (6, (.invokestatic 67, 9, 0, 0, 0, [], [])), (9, (.ifCond .eq 33, 12, 42, 0, 0, [], [])), (12, (.iload_n 2, 13, 0, 0, 0, [], [])), (13, (.iconst (-1), 14, 0, (-1), 0, [], [])), (14, (.if_icmp .eq 11, 17, 25, 0, 0, [], [])), (17, (.aload_n 0, 18, 0, 0, 0, [], [])), (18, (.iload_n 2, 19, 0, 0, 0, [], [])), (19, (.invokevirtual 84, 22, 0, 0, 0, [], [])), (22, (.ifCond .eq 20, 25, 42, 0, 0, [], [])), (25, (.iconst 2, 26, 0, 2, 0, [], [true, true, true, true, true, false])), (26, (.iload_n 3, 27, 0, 0, 0, [], [])), (27, (.invokestatic 88, 30, 0, 0, 0, [], [])), (30, (.ifCond .eq 12, 33, 42, 0, 0, [], []))],
  [(33, (.iconst 3, 34, 0, 3, 0, [], [])), (34, (.iload 4, 36, 0, 0, 0, [], [])), (36, (.invokestatic 88, 39, 0, 0, 0, [], [])), (39, (.ifCond .ne 5, 42, 44, 0, 0, [], [])), (42, (.iconst (-1), 43, 0, (-1), 0, [], [])), (43, (.ireturn, 44, 0, 0, 0, [], [])), (44, (.aload_n 0, 45, 0, 0, 0, [], [])), (45, (.getfield 7, 48, 0, 0, 0, [], [])), (48, (.iconst 0, 49, 0, 0, 0, [], [])), (49, (.iaload, 50, 1, 0, 0, [], [])), (50, (.bipush 9, 52, 0, 9, 0, [], [])), (52, (.if_icmp .ne 6, 55, 58, 0, 0, [], [])), (55, (.bipush (-2), 57, 0, (-2), 0, [], [])), (57, (.ireturn, 58, 0, 0, 0, [], [])), (58, (.iload_n 2, 59, 0, 0, 0, [], [])), (59, (.ifCond .lt 14, 62, 73, 0, 0, [], [])), (62, (.aload_n 0, 63, 0, 0, 0, [], [])), (63, (.iload_n 2, 64, 0, 0, 0, [], []))],
  [(64, (.invokevirtual 92, 67, 0, 0, 0, [], [])), (67, (.ifCond .eq 6, 70, 73, 0, 0, [], [])), (70, (.bipush (-4), 72, 0, (-4), 0, [], [])), (72, (.ireturn, 73, 0, 0, 0, [], [])), (73, (.aload_n 0, 74, 0, 0, 0, [], [true, true, true, true, true, false])), (74, (.getfield 7, 77, 0, 0, 0, [], [])), (77, (.iconst 0, 78, 0, 0, 0, [], [])), (78, (.iaload, 79, 1, 0, 0, [], [])), (79, (.istore 5, 81, 0, 0, 0, [], [])), (81, (.aload_n 0, 82, 0, 0, 0, [], [])), (82, (.getfield 7, 85, 0, 0, 0, [], [])), (85, (.iload 5, 87, 0, 0, 0, [], [])), (87, (.iconst 0, 88, 0, 0, 0, [], [])), (88, (.invokestatic 71, 91, 0, 0, 0, [], [])), (91, (.iload_n 1, 92, 0, 0, 0, [], [])), (92, (.iastore, 93, 0, 0, 0, [], [])), (93, (.aload_n 0, 94, 0, 0, 0, [], [])), (94, (.getfield 7, 97, 0, 0, 0, [], []))],
  [(97, (.iload 5, 99, 0, 0, 0, [], [])), (99, (.iconst 1, 100, 0, 1, 0, [], [])), (100, (.invokestatic 71, 103, 0, 0, 0, [], [])), (103, (.iload_n 2, 104, 0, 0, 0, [], [])), (104, (.iconst 1, 105, 0, 1, 0, [], [])), (105, (.iadd, 106, 0, 0, 0, [], [])), (106, (.iastore, 107, 0, 0, 0, [], [])), (107, (.aload_n 0, 108, 0, 0, 0, [], [])), (108, (.getfield 7, 111, 0, 0, 0, [], [])), (111, (.iload 5, 113, 0, 0, 0, [], [])), (113, (.iconst 2, 114, 0, 2, 0, [], [])), (114, (.invokestatic 71, 117, 0, 0, 0, [], [])), (117, (.iload_n 3, 118, 0, 0, 0, [], [])), (118, (.iastore, 119, 0, 0, 0, [], [])), (119, (.aload_n 0, 120, 0, 0, 0, [], [])), (120, (.getfield 7, 123, 0, 0, 0, [], [])), (123, (.iload 5, 125, 0, 0, 0, [], [])), (125, (.iconst 3, 126, 0, 3, 0, [], [])), (126, (.invokestatic 71, 129, 0, 0, 0, [], []))],
  [(129, (.iload 4, 131, 0, 0, 0, [], [])), (131, (.iastore, 132, 0, 0, 0, [], [])), (132, (.aload_n 0, 133, 0, 0, 0, [], [])), (133, (.getfield 7, 136, 0, 0, 0, [], [])), (136, (.iload 5, 138, 0, 0, 0, [], [])), (138, (.iconst 4, 139, 0, 4, 0, [], [])), (139, (.invokestatic 71, 142, 0, 0, 0, [], [])), (142, (.iconst 0, 143, 0, 0, 0, [], [])), (143, (.iastore, 144, 0, 0, 0, [], [])), (144, (.aload_n 0, 145, 0, 0, 0, [], [])), (145, (.getfield 7, 148, 0, 0, 0, [], [])), (148, (.iconst 0, 149, 0, 0, 0, [], [])), (149, (.dup2, 150, 0, 0, 0, [], [])), (150, (.iaload, 151, 1, 0, 0, [], [])), (151, (.iconst 1, 152, 0, 1, 0, [], [])), (152, (.iadd, 153, 0, 0, 0, [], [])), (153, (.iastore, 154, 1, 0, 0, [], [])), (154, (.iload 5, 156, 0, 0, 0, [], [])), (156, (.ireturn, 157, 0, 0, 0, [], []))]]
noncomputable abbrev zT_160 : zT := (12, zI_160, 1, 6) -- X12_bough
noncomputable def zI_161 : List (List (Nat × zE)) := [[(0, (.iload_n 1, 1, 0, 0, 0, [], [])), (1, (.ifCond .eq 28, 4, 29, 0, 0, [], [])), (4, (.iload_n 0, 5, 0, 0, 0, [], [])), (5, (.iload_n 1, 6, 0, 0, 0, [], [])), (6, (.if_icmp .eq 23, 9, 29, 0, 0, [], [])), (9, (.iload_n 1, 10, 0, 0, 0, [], [])), (10, (.iconst 2, 11, 0, 2, 0, [], [])), (11, (.if_icmp .ne 8, 14, 19, 0, 0, [], [])), (14, (.iload_n 0, 15, 0, 0, 0, [], [])), (15, (.iconst 3, 16, 0, 3, 0, [], [])), (16, (.if_icmp .eq 13, 19, 29, 0, 0, [], [])), (19, (.iload_n 1, 20, 0, 0, 0, [], [])), (20, (.iconst 4, 21, 0, 4, 0, [], [])), (21, (.if_icmp .ne 12, 24, 33, 0, 0, [], [])), (24, (.iload_n 0, 25, 0, 0, 0, [], [])), (25, (.iconst 5, 26, 0, 5, 0, [], [])), (26, (.if_icmp .ne 7, 29, 33, 0, 0, [], [])), (29, (.iconst 1, 30, 0, 1, 0, [], [])), (30, (.goto 4, 33, 34, 0, 0, [], []))],
  [(33, (.iconst 0, 34, 0, 0, 0, [], [])), (34, (.ireturn, 35, 0, 0, 0, [], []))]]
noncomputable abbrev zT_161 : zT := (12, zI_161, 3, 2) -- X12_isUnder
noncomputable def zI_162 : List (List (Nat × zE)) := [[(0, (.iload_n 1, 1, 0, 0, 0, [], [])), (1, (.tableswitch 65 (-5) (-1) #[63, 56, 49, 42, 35], 36, 66, 0, 0, [((-5), 64), ((-4), 57), ((-3), 50), ((-2), 43), ((-1), 36)], []))],
  [(36, (.aload_n 0, 37, 0, 0, 0, [], [])), (37, (.getfield 7, 40, 0, 0, 0, [], [])), (40, (.iconst 4, 41, 0, 4, 0, [], [])), (41, (.iaload, 42, 5, 0, 0, [], [])), (42, (.ireturn, 43, 0, 0, 0, [], [])), (43, (.aload_n 0, 44, 0, 0, 0, [], [])), (44, (.getfield 7, 47, 0, 0, 0, [], [])), (47, (.iconst 5, 48, 0, 5, 0, [], [])), (48, (.iaload, 49, 6, 0, 0, [], [])), (49, (.ireturn, 50, 0, 0, 0, [], [])), (50, (.aload_n 0, 51, 0, 0, 0, [], [])), (51, (.iload_n 2, 52, 0, 0, 0, [], [])), (52, (.iconst 2, 53, 0, 2, 0, [], [])), (53, (.invokevirtual 75, 56, 0, 0, 0, [], [])), (56, (.ireturn, 57, 0, 0, 0, [], [])), (57, (.aload_n 0, 58, 0, 0, 0, [], [])), (58, (.iload_n 2, 59, 0, 0, 0, [], [])), (59, (.iconst 3, 60, 0, 3, 0, [], [])), (60, (.invokevirtual 75, 63, 0, 0, 0, [], [])), (63, (.ireturn, 64, 0, 0, 0, [], []))],
  [(64, (.iload_n 2, 65, 0, 0, 0, [], [])), (65, (.ireturn, 66, 0, 0, 0, [], [])), (66, (.iload_n 1, 67, 0, 0, 0, [], [])), (67, (.ireturn, 68, 0, 0, 0, [], []))]]
noncomputable abbrev zT_162 : zT := (12, zI_162, 1, 3) -- X12_fact
noncomputable def zI_163 : List (List (Nat × zE)) := [[(0, (.iload_n 0, 1, 0, 0, 0, [], [])), (1, (.lookupswitch 92 #[(-21, 76), (-13, 65), (-12, 54), (-11, 43)], 44, 93, 0, 0, [((-21), 77), ((-13), 66), ((-12), 55), ((-11), 44)], []))],
  [(44, (.iload_n 1, 45, 0, 0, 0, [], [])), (45, (.iload_n 2, 46, 0, 0, 0, [], [])), (46, (.if_icmp .ge 7, 49, 53, 0, 0, [], [])), (49, (.iconst 1, 50, 0, 1, 0, [], [])), (50, (.goto 4, 53, 54, 0, 0, [], [])), (53, (.iconst 0, 54, 0, 0, 0, [], [])), (54, (.ireturn, 55, 0, 0, 0, [], [])), (55, (.iload_n 1, 56, 0, 0, 0, [], [])), (56, (.iload_n 2, 57, 0, 0, 0, [], [])), (57, (.if_icmp .ne 7, 60, 64, 0, 0, [], [])), (60, (.iconst 1, 61, 0, 1, 0, [], [])), (61, (.goto 4, 64, 65, 0, 0, [], []))],
  [(64, (.iconst 0, 65, 0, 0, 0, [], [])), (65, (.ireturn, 66, 0, 0, 0, [], [])), (66, (.iload_n 1, 67, 0, 0, 0, [], [])), (67, (.iload_n 2, 68, 0, 0, 0, [], [])), (68, (.if_icmp .le 7, 71, 75, 0, 0, [], [])), (71, (.iconst 1, 72, 0, 1, 0, [], [])), (72, (.goto 4, 75, 76, 0, 0, [], [])), (75, (.iconst 0, 76, 0, 0, 0, [], [])), (76, (.ireturn, 77, 0, 0, 0, [], [])), (77, (.iload_n 1, 78, 0, 0, 0, [], [])), (78, (.iconst 1, 79, 0, 1, 0, [], [])), (79, (.if_icmp .ne 12, 82, 91, 0, 0, [], [])), (82, (.iload_n 2, 83, 0, 0, 0, [], [])), (83, (.iconst 1, 84, 0, 1, 0, [], [])), (84, (.if_icmp .ne 7, 87, 91, 0, 0, [], [])), (87, (.iconst 1, 88, 0, 1, 0, [], [])), (88, (.goto 4, 91, 92, 0, 0, [], [])), (91, (.iconst 0, 92, 0, 0, 0, [], [])), (92, (.ireturn, 93, 0, 0, 0, [], [])), (93, (.iload_n 1, 94, 0, 0, 0, [], [])), (94, (.iconst 1, 95, 0, 1, 0, [], [])), (95, (.if_icmp .eq 8, 98, 103, 0, 0, [], []))],
  [(98, (.iload_n 2, 99, 0, 0, 0, [], [])), (99, (.iconst 1, 100, 0, 1, 0, [], [])), (100, (.if_icmp .ne 7, 103, 107, 0, 0, [], [])), (103, (.iconst 1, 104, 0, 1, 0, [], [])), (104, (.goto 4, 107, 108, 0, 0, [], [])), (107, (.iconst 0, 108, 0, 0, 0, [], [])), (108, (.ireturn, 109, 0, 0, 0, [], []))]]
noncomputable abbrev zT_163 : zT := (12, zI_163, 3, 3) -- X12_isHolding
noncomputable def zI_164 : List (List (Nat × zE)) := [[(0, (.iconst 0, 1, 0, 0, 0, [], [])), (1, (.istore 4, 3, 0, 0, 0, [], [])), (3, (.iload_n 1, 4, 0, 0, 0, [], [])), (4, (.istore 5, 6, 0, 0, 0, [], [])), (6, (.iload 5, 8, 0, 0, 0, [], [true, false, true, true, true, true, false])), (8, (.iload_n 2, 9, 0, 0, 0, [], [])), (9, (.if_icmp .ge 119, 12, 128, 0, 0, [], [])), (12, (.aload_n 0, 13, 0, 0, 0, [], [])), (13, (.getfield 7, 16, 0, 0, 0, [], [])), (16, (.bipush 120, 18, 0, 120, 0, [], [])), (18, (.iload 5, 20, 0, 0, 0, [], [])), (20, (.iadd, 21, 0, 0, 0, [], [])), (21, (.iaload, 22, 0, 0, 0, [], [])), (22, (.istore 6, 24, 0, 0, 0, [], [])), (24, (.iload 6, 26, 0, 0, 0, [], [])), (26, (.bipush (-10), 28, 0, (-10), 0, [], [])), (28, (.if_icmp .le 23, 31, 51, 0, 0, [], [])), (31, (.aload_n 0, 32, 0, 0, 0, [], []))],
  [(32, (.getfield 19, 35, 0, 0, 0, [], [])), (35, (.iload 4, 37, 0, 0, 0, [], [])), (37, (.aload_n 0, 38, 0, 0, 0, [], [])), (38, (.iload 6, 40, 0, 0, 0, [], [])), (40, (.iload_n 3, 41, 0, 0, 0, [], [])), (41, (.invokevirtual 95, 44, 0, 0, 0, [], [])), (44, (.iastore, 45, 0, 0, 0, [], [])), (45, (.iinc 4 1, 48, 0, 1, 0, [], [])), (48, (.goto 74, 51, 122, 0, 0, [], [])), (51, (.iload 6, 53, 0, 0, 0, [], [])), (53, (.bipush (-20), 55, 0, (-20), 0, [], [])), (55, (.if_icmp .ne 26, 58, 81, 0, 0, [], [])), (58, (.aload_n 0, 59, 0, 0, 0, [], [])), (59, (.getfield 19, 62, 0, 0, 0, [], [])), (62, (.iload 4, 64, 0, 0, 0, [], []))],
  [(64, (.iconst 1, 65, 0, 1, 0, [], [])), (65, (.isub, 66, 0, 0, 0, [], [])), (66, (.iconst 1, 67, 0, 1, 0, [], [])), (67, (.aload_n 0, 68, 0, 0, 0, [], [])), (68, (.getfield 19, 71, 0, 0, 0, [], [])), (71, (.iload 4, 73, 0, 0, 0, [], [])), (73, (.iconst 1, 74, 0, 1, 0, [], [])), (74, (.isub, 75, 0, 0, 0, [], [])), (75, (.iaload, 76, 0, 0, 0, [], [])), (76, (.isub, 77, 0, 0, 0, [], [])), (77, (.iastore, 78, 0, 0, 0, [], [])), (78, (.goto 44, 81, 122, 0, 0, [], [])), (81, (.iinc 4 (-1), 84, 0, (-1), 0, [], [])), (84, (.aload_n 0, 85, 0, 0, 0, [], [])), (85, (.getfield 19, 88, 0, 0, 0, [], [])), (88, (.iload 4, 90, 0, 0, 0, [], [])), (90, (.iconst 1, 91, 0, 1, 0, [], [])), (91, (.isub, 92, 0, 0, 0, [], [])), (92, (.iload 6, 94, 0, 0, 0, [], [])), (94, (.aload_n 0, 95, 0, 0, 0, [], [])), (95, (.getfield 19, 98, 0, 0, 0, [], []))],
  [(98, (.iload 4, 100, 0, 0, 0, [], [])), (100, (.iconst 1, 101, 0, 1, 0, [], [])), (101, (.isub, 102, 0, 0, 0, [], [])), (102, (.iaload, 103, 0, 0, 0, [], [])), (103, (.aload_n 0, 104, 0, 0, 0, [], [])), (104, (.getfield 19, 107, 0, 0, 0, [], [])), (107, (.iload 4, 109, 0, 0, 0, [], [])), (109, (.iaload, 110, 0, 0, 0, [], [])), (110, (.invokestatic 98, 113, 0, 0, 0, [], [])), (113, (.ifCond .eq 7, 116, 120, 0, 0, [], [])), (116, (.iconst 1, 117, 0, 1, 0, [], [])), (117, (.goto 4, 120, 121, 0, 0, [], [])), (120, (.iconst 0, 121, 0, 0, 0, [], [])), (121, (.iastore, 122, 0, 0, 0, [], [])), (122, (.iinc 5 1, 125, 0, 1, 0, [], [])), (125, (.goto (-119), 128, 6, 0, 0, [], []))],
  [(128, (.iload 4, 130, 0, 0, 0, [], [])), (130, (.ifCond .eq 13, 133, 143, 0, 0, [], [])), (133, (.aload_n 0, 134, 0, 0, 0, [], [])), (134, (.getfield 19, 137, 0, 0, 0, [], [])), (137, (.iconst 0, 138, 0, 0, 0, [], [])), (138, (.iaload, 139, 1, 0, 0, [], [])), (139, (.iconst 1, 140, 0, 1, 0, [], [])), (140, (.if_icmp .ne 7, 143, 147, 0, 0, [], [])), (143, (.iconst 1, 144, 0, 1, 0, [], [])), (144, (.goto 4, 147, 148, 0, 0, [], [])), (147, (.iconst 0, 148, 0, 0, 0, [], [])), (148, (.ireturn, 149, 0, 0, 0, [], []))]]
noncomputable abbrev zT_164 : zT := (12, zI_164, 3, 7) -- X12_isSo
noncomputable def zI_165_0 : List (Nat × zE) := [(0, (.aload_n 0, 1, 0, 0, 0, [], [])), (1, (.iload_n 1, 2, 0, 0, 0, [], [])), (2, (.iconst 0, 3, 0, 0, 0, [], [])), (3, (.invokevirtual 75, 6, 0, 0, 0, [], [])), (6, (.istore_n 2, 7, 0, 0, 0, [], [])), (7, (.iconst (-1), 8, 0, (-1), 0, [], [])), (8, (.istore_n 3, 9, 0, 0, 0, [], [])), (9, (.iconst 0, 10, 0, 0, 0, [], [])), (10, (.istore 4, 12, 0, 0, 0, [], [])), (12, (.iconst 0, 13, 0, 0, 0, [], [])), (13, (.istore 5, 15, 0, 0, 0, [], [])), (15, (.iload 5, 17, 0, 0, 0, [], [true, true, true, true, true, true, false, false, false])), (17, (.aload_n 0, 18, 0, 0, 0, [], [])), (18, (.getfield 7, 21, 0, 0, 0, [], [])), (21, (.iconst 1, 22, 0, 1, 0, [], [])), (22, (.iaload, 23, 2, 0, 0, [], [])), (23, (.if_icmp .ge 75, 26, 98, 0, 0, [], [])), (26, (.iload_n 3, 27, 0, 0, 0, [], [])), (27, (.ifCond .ge 71, 30, 98, 0, 0, [], [])), (30, (.bipush 88, 32, 0, 88, 0, [], []))]
noncomputable def zI_165_1 : List (Nat × zE) := [(32, (.iconst 4, 33, 0, 4, 0, [], [])), (33, (.iload 5, 35, 0, 0, 0, [], [])), (35, (.imul, 36, 0, 0, 0, [], [])), (36, (.iadd, 37, 0, 0, 0, [], [])), (37, (.istore 6, 39, 0, 0, 0, [], [])), (39, (.iload_n 2, 40, 0, 0, 0, [], [])), (40, (.aload_n 0, 41, 0, 0, 0, [], [])), (41, (.getfield 7, 44, 0, 0, 0, [], [])), (44, (.iload 6, 46, 0, 0, 0, [], [])), (46, (.iconst 0, 47, 0, 0, 0, [], [])), (47, (.iadd, 48, 0, 0, 0, [], [])), (48, (.iaload, 49, 0, 0, 0, [], [])), (49, (.invokestatic 102, 52, 0, 0, 0, [], [])), (52, (.ifCond .eq 27, 55, 79, 0, 0, [], [])), (55, (.aload_n 0, 56, 0, 0, 0, [], [])), (56, (.iload 4, 58, 0, 0, 0, [], [])), (58, (.aload_n 0, 59, 0, 0, 0, [], [])), (59, (.getfield 7, 62, 0, 0, 0, [], [])), (62, (.iload 6, 64, 0, 0, 0, [], []))]
noncomputable def zI_165_2 : List (Nat × zE) := [(64, (.iconst 3, 65, 0, 3, 0, [], [])), (65, (.iadd, 66, 0, 0, 0, [], [])), (66, (.iaload, 67, 0, 0, 0, [], [])), (67, (.iload_n 1, 68, 0, 0, 0, [], [])), (68, (.invokevirtual 105, 71, 0, 0, 0, [], [])), (71, (.ifCond .eq 8, 74, 79, 0, 0, [], [])), (74, (.iload 6, 76, 0, 0, 0, [], [])), (76, (.goto 4, 79, 80, 0, 0, [], [])), (79, (.iconst (-1), 80, 0, (-1), 0, [], [])), (80, (.istore_n 3, 81, 0, 0, 0, [], [])), (81, (.aload_n 0, 82, 0, 0, 0, [], [])), (82, (.getfield 7, 85, 0, 0, 0, [], [])), (85, (.iload 6, 87, 0, 0, 0, [], [])), (87, (.iconst 3, 88, 0, 3, 0, [], [])), (88, (.iadd, 89, 0, 0, 0, [], [])), (89, (.iaload, 90, 0, 0, 0, [], [])), (90, (.istore 4, 92, 0, 0, 0, [], [])), (92, (.iinc 5 1, 95, 0, 1, 0, [], [])), (95, (.goto (-80), 98, 15, 0, 0, [], []))]
noncomputable def zI_165_3 : List (Nat × zE) := [(98, (.iload_n 3, 99, 0, 0, 0, [], [true, true, true, true, false, false, false, false, false])), (99, (.ifCond .ge 7, 102, 106, 0, 0, [], [])), (102, (.iconst (-1), 103, 0, (-1), 0, [], [])), (103, (.goto 11, 106, 114, 0, 0, [], [])), (106, (.aload_n 0, 107, 0, 0, 0, [], [])), (107, (.getfield 7, 110, 0, 0, 0, [], [])), (110, (.iload_n 3, 111, 0, 0, 0, [], [])), (111, (.iconst 1, 112, 0, 1, 0, [], [])), (112, (.iadd, 113, 0, 0, 0, [], [])), (113, (.iaload, 114, 0, 0, 0, [], [])), (114, (.istore 5, 116, 0, 0, 0, [], [true, true, true, true, false, false, false, false, false])), (116, (.iload_n 3, 117, 0, 0, 0, [], [])), (117, (.ifCond .ge 7, 120, 124, 0, 0, [], [])), (120, (.iconst 0, 121, 0, 0, 0, [], [])), (121, (.goto 11, 124, 132, 0, 0, [], [])), (124, (.aload_n 0, 125, 0, 0, 0, [], [])), (125, (.getfield 7, 128, 0, 0, 0, [], []))]
noncomputable def zI_165_4 : List (Nat × zE) := [(128, (.iload_n 3, 129, 0, 0, 0, [], [])), (129, (.iconst 2, 130, 0, 2, 0, [], [])), (130, (.iadd, 131, 0, 0, 0, [], [])), (131, (.iaload, 132, 0, 0, 0, [], [])), (132, (.istore 6, 134, 0, 0, 0, [], [true, true, true, false, false, true, false, false, false])), (134, (.aload_n 0, 135, 0, 0, 0, [], [])), (135, (.iload_n 1, 136, 0, 0, 0, [], [])), (136, (.iconst 3, 137, 0, 3, 0, [], [])), (137, (.invokevirtual 75, 140, 0, 0, 0, [], [])), (140, (.istore 7, 142, 0, 0, 0, [], [])), (142, (.iload 5, 144, 0, 0, 0, [], [])), (144, (.ifCond .ne 11, 147, 155, 0, 0, [], [])), (147, (.iload 7, 149, 0, 0, 0, [], [])), (149, (.iload 6, 151, 0, 0, 0, [], [])), (151, (.iadd, 152, 0, 0, 0, [], [])), (152, (.goto 29, 155, 181, 0, 0, [], [])), (155, (.iload 5, 157, 0, 0, 0, [], [])), (157, (.iconst 1, 158, 0, 1, 0, [], [])), (158, (.if_icmp .ne 11, 161, 169, 0, 0, [], []))]
noncomputable def zI_165_5 : List (Nat × zE) := [(161, (.iload 7, 163, 0, 0, 0, [], [])), (163, (.iload 6, 165, 0, 0, 0, [], [])), (165, (.isub, 166, 0, 0, 0, [], [])), (166, (.goto 15, 169, 181, 0, 0, [], [])), (169, (.iload 5, 171, 0, 0, 0, [], [])), (171, (.iconst 2, 172, 0, 2, 0, [], [])), (172, (.if_icmp .ne 7, 175, 179, 0, 0, [], [])), (175, (.iconst 0, 176, 0, 0, 0, [], [])), (176, (.goto 5, 179, 181, 0, 0, [], [])), (179, (.iload 7, 181, 0, 0, 0, [], [])), (181, (.istore 7, 183, 0, 0, 0, [], [true, true, true, false, false, false, false, false, false])), (183, (.iload 7, 185, 0, 0, 0, [], [])), (185, (.ifCond .ge 7, 188, 192, 0, 0, [], [])), (188, (.iconst 0, 189, 0, 0, 0, [], [])), (189, (.goto 5, 192, 194, 0, 0, [], []))]
noncomputable def zI_165_6 : List (Nat × zE) := [(192, (.iload 7, 194, 0, 0, 0, [], [])), (194, (.istore 7, 196, 0, 0, 0, [], [true, true, true, false, false, false, false, false, false])), (196, (.iload 7, 198, 0, 0, 0, [], [])), (198, (.iconst 2, 199, 0, 2, 0, [], [])), (199, (.idiv, 200, 0, 0, 0, [], [])), (200, (.aload_n 0, 201, 0, 0, 0, [], [])), (201, (.iload_n 1, 202, 0, 0, 0, [], [])), (202, (.iconst 2, 203, 0, 2, 0, [], [])), (203, (.invokevirtual 75, 206, 0, 0, 0, [], [])), (206, (.isub, 207, 0, 0, 0, [], [])), (207, (.istore 8, 209, 0, 0, 0, [], [])), (209, (.iload_n 2, 210, 0, 0, 0, [], [])), (210, (.iconst 1, 211, 0, 1, 0, [], [])), (211, (.if_icmp .ne 18, 214, 229, 0, 0, [], [])), (214, (.iload 7, 216, 0, 0, 0, [], [])), (216, (.bipush 10, 218, 0, 10, 0, [], [])), (218, (.aload_n 0, 219, 0, 0, 0, [], [])), (219, (.getfield 7, 222, 0, 0, 0, [], [])), (222, (.iconst 4, 223, 0, 4, 0, [], [])), (223, (.iaload, 224, 5, 0, 0, [], []))]
noncomputable def zI_165_7 : List (Nat × zE) := [(224, (.imul, 225, 0, 0, 0, [], [])), (225, (.iadd, 226, 0, 0, 0, [], [])), (226, (.goto 54, 229, 280, 0, 0, [], [])), (229, (.iload_n 2, 230, 0, 0, 0, [], [])), (230, (.iconst 2, 231, 0, 2, 0, [], [])), (231, (.if_icmp .ne 10, 234, 241, 0, 0, [], [])), (234, (.iload 7, 236, 0, 0, 0, [], [])), (236, (.iconst 2, 237, 0, 2, 0, [], [])), (237, (.idiv, 238, 0, 0, 0, [], [])), (238, (.goto 42, 241, 280, 0, 0, [], [])), (241, (.iload_n 2, 242, 0, 0, 0, [], [])), (242, (.iconst 3, 243, 0, 3, 0, [], [])), (243, (.if_icmp .ne 17, 246, 260, 0, 0, [], [])), (246, (.iload 8, 248, 0, 0, 0, [], [])), (248, (.ifCond .ge 7, 251, 255, 0, 0, [], [])), (251, (.iconst 0, 252, 0, 0, 0, [], [])), (252, (.goto 28, 255, 280, 0, 0, [], [])), (255, (.iload 8, 257, 0, 0, 0, [], []))]
noncomputable def zI_165_8 : List (Nat × zE) := [(257, (.goto 23, 260, 280, 0, 0, [], [])), (260, (.iload_n 2, 261, 0, 0, 0, [], [])), (261, (.iconst 4, 262, 0, 4, 0, [], [])), (262, (.if_icmp .ne 11, 265, 273, 0, 0, [], [])), (265, (.iload 7, 267, 0, 0, 0, [], [])), (267, (.bipush 50, 269, 0, 50, 0, [], [])), (269, (.iadd, 270, 0, 0, 0, [], [])), (270, (.goto 10, 273, 280, 0, 0, [], [])), (273, (.iconst 2, 274, 0, 2, 0, [], [])), (274, (.iload 7, 276, 0, 0, 0, [], [])), (276, (.bipush 50, 278, 0, 50, 0, [], [])), (278, (.iadd, 279, 0, 0, 0, [], [])), (279, (.imul, 280, 0, 0, 0, [], [])), (280, (.ireturn, 281, 0, 0, 0, [], []))]
noncomputable def zI_165 : List (List (Nat × zE)) := [zI_165_0, zI_165_1, zI_165_2, zI_165_3, zI_165_4, zI_165_5, zI_165_6, zI_165_7, zI_165_8]
noncomputable abbrev zT_165 : zT := (12, zI_165, 1, 9) -- X12_holdsNow
noncomputable def zI_166 : List (List (Nat × zE)) := [[(0, (.iconst 0, 1, 0, 0, 0, [], [])), (1, (.istore_n 1, 2, 0, 0, 0, [], [])), (2, (.iload_n 1, 3, 0, 0, 0, [], [true, true])), (3, (.aload_n 0, 4, 0, 0, 0, [], [])), (4, (.getfield 7, 7, 0, 0, 0, [], [])), (7, (.iconst 0, 8, 0, 0, 0, [], [])), (8, (.iaload, 9, 1, 0, 0, [], [])), (9, (.if_icmp .ge 20, 12, 29, 0, 0, [], [])), (12, (.aload_n 0, 13, 0, 0, 0, [], [])), (13, (.getfield 22, 16, 0, 0, 0, [], [])), (16, (.iload_n 1, 17, 0, 0, 0, [], [])), (17, (.aload_n 0, 18, 0, 0, 0, [], [])), (18, (.iload_n 1, 19, 0, 0, 0, [], [])), (19, (.invokevirtual 108, 22, 0, 0, 0, [], [])), (22, (.iastore, 23, 0, 0, 0, [], [])), (23, (.iinc 1 1, 26, 0, 1, 0, [], [])), (26, (.goto (-24), 29, 2, 0, 0, [], [])), (29, (.return_, 30, 0, 0, 0, [], []))]]
noncomputable abbrev zT_166 : zT := (12, zI_166, 0, 2) -- X12_findHolds
noncomputable def zI_167 : List (List (Nat × zE)) := [[(0, (.iload_n 1, 1, 0, 0, 0, [], [])), (1, (.istore_n 3, 2, 0, 0, 0, [], [])), (2, (.iload_n 3, 3, 0, 0, 0, [], [true, false, true, true])), (3, (.ifCond .lt 22, 6, 25, 0, 0, [], [])), (6, (.aload_n 0, 7, 0, 0, 0, [], [])), (7, (.getfield 25, 10, 0, 0, 0, [], [])), (10, (.iload_n 3, 11, 0, 0, 0, [], [])), (11, (.dup2, 12, 0, 0, 0, [], [])), (12, (.iaload, 13, 0, 0, 0, [], [])), (13, (.iload_n 2, 14, 0, 0, 0, [], [])), (14, (.iadd, 15, 0, 0, 0, [], [])), (15, (.iastore, 16, 0, 0, 0, [], [])), (16, (.aload_n 0, 17, 0, 0, 0, [], [])), (17, (.iload_n 3, 18, 0, 0, 0, [], [])), (18, (.invokevirtual 112, 21, 0, 0, 0, [], [])), (21, (.istore_n 3, 22, 0, 0, 0, [], [])), (22, (.goto (-20), 25, 2, 0, 0, [], [])), (25, (.return_, 26, 0, 0, 0, [], []))]]
noncomputable abbrev zT_167 : zT := (12, zI_167, 0, 4) -- X12_loads
noncomputable def zI_168 : List (List (Nat × zE)) := [[(0, (.iconst 0, 1, 0, 0, 0, [], [])), (1, (.istore_n 1, 2, 0, 0, 0, [], [])), (2, (.iload_n 1, 3, 0, 0, 0, [], [true, true])), (3, (.aload_n 0, 4, 0, 0, 0, [], [])), (4, (.getfield 7, 7, 0, 0, 0, [], [])), (7, (.iconst 0, 8, 0, 0, 0, [], [])), (8, (.iaload, 9, 1, 0, 0, [], [])), (9, (.if_icmp .ge 28, 12, 37, 0, 0, [], [])), (12, (.aload_n 0, 13, 0, 0, 0, [], [])), (13, (.getfield 25, 16, 0, 0, 0, [], [])), (16, (.iload_n 1, 17, 0, 0, 0, [], [])), (17, (.aload_n 0, 18, 0, 0, 0, [], [])), (18, (.getfield 7, 21, 0, 0, 0, [], [])), (21, (.iconst 5, 22, 0, 5, 0, [], [])), (22, (.iaload, 23, 6, 0, 0, [], [])), (23, (.aload_n 0, 24, 0, 0, 0, [], [])), (24, (.iload_n 1, 25, 0, 0, 0, [], [])), (25, (.iconst 2, 26, 0, 2, 0, [], [])), (26, (.invokevirtual 75, 29, 0, 0, 0, [], [])), (29, (.imul, 30, 0, 0, 0, [], [])), (30, (.iastore, 31, 0, 0, 0, [], [])), (31, (.iinc 1 1, 34, 0, 1, 0, [], []))],
  [(34, (.goto (-32), 37, 2, 0, 0, [], [])), (37, (.iconst 0, 38, 0, 0, 0, [], [])), (38, (.istore_n 1, 39, 0, 0, 0, [], [])), (39, (.iload_n 1, 40, 0, 0, 0, [], [true, true])), (40, (.aload_n 0, 41, 0, 0, 0, [], [])), (41, (.getfield 7, 44, 0, 0, 0, [], [])), (44, (.iconst 2, 45, 0, 2, 0, [], [])), (45, (.iaload, 46, 3, 0, 0, [], [])), (46, (.if_icmp .ge 24, 49, 70, 0, 0, [], [])), (49, (.aload_n 0, 50, 0, 0, 0, [], [])), (50, (.aload_n 0, 51, 0, 0, 0, [], [])), (51, (.iload_n 1, 52, 0, 0, 0, [], [])), (52, (.invokevirtual 115, 55, 0, 0, 0, [], [])), (55, (.aload_n 0, 56, 0, 0, 0, [], [])), (56, (.iload_n 1, 57, 0, 0, 0, [], [])), (57, (.iconst 0, 58, 0, 0, 0, [], [])), (58, (.invokevirtual 118, 61, 0, 0, 0, [], [])), (61, (.invokevirtual 121, 64, 0, 0, 0, [], []))],
  [(64, (.iinc 1 1, 67, 0, 1, 0, [], [])), (67, (.goto (-28), 70, 39, 0, 0, [], [])), (70, (.return_, 71, 0, 0, 0, [], []))]]
noncomputable abbrev zT_168 : zT := (12, zI_168, 0, 2) -- X12_findBears
noncomputable def zI_169 : List (List (Nat × zE)) := [[(0, (.aload_n 0, 1, 0, 0, 0, [], [])), (1, (.iload_n 1, 2, 0, 0, 0, [], [])), (2, (.invokevirtual 92, 5, 0, 0, 0, [], [])), (5, (.ifCond .ne 22, 8, 27, 0, 0, [], [])), (8, (.aload_n 0, 9, 0, 0, 0, [], [])), (9, (.getfield 25, 12, 0, 0, 0, [], [])), (12, (.iload_n 1, 13, 0, 0, 0, [], [])), (13, (.iaload, 14, 0, 0, 0, [], [])), (14, (.aload_n 0, 15, 0, 0, 0, [], [])), (15, (.getfield 22, 18, 0, 0, 0, [], [])), (18, (.iload_n 1, 19, 0, 0, 0, [], [])), (19, (.iaload, 20, 0, 0, 0, [], [])), (20, (.if_icmp .le 7, 23, 27, 0, 0, [], [])), (23, (.iconst 1, 24, 0, 1, 0, [], [])), (24, (.goto 4, 27, 28, 0, 0, [], [])), (27, (.iconst 0, 28, 0, 0, 0, [], [])), (28, (.ireturn, 29, 0, 0, 0, [], []))]]
noncomputable abbrev zT_169 : zT := (12, zI_169, 3, 2) -- X12_isCracking
noncomputable def zI_170 : List (List (Nat × zE)) := [[(0, (.aload_n 0, 1, 0, 0, 0, [], [])), (1, (.invokevirtual 125, 4, 0, 0, 0, [], [])), (4, (.iconst 0, 5, 0, 0, 0, [], [])), (5, (.istore_n 1, 6, 0, 0, 0, [], [])), (6, (.iconst 0, 7, 0, 0, 0, [], [])), (7, (.istore_n 2, 8, 0, 0, 0, [], [])), (8, (.iload_n 2, 9, 0, 0, 0, [], [true, true, true])), (9, (.aload_n 0, 10, 0, 0, 0, [], [])), (10, (.getfield 7, 13, 0, 0, 0, [], [])), (13, (.iconst 0, 14, 0, 0, 0, [], [])), (14, (.iaload, 15, 1, 0, 0, [], [])), (15, (.if_icmp .ge 27, 18, 42, 0, 0, [], [])), (18, (.iload_n 1, 19, 0, 0, 0, [], [])), (19, (.aload_n 0, 20, 0, 0, 0, [], [])), (20, (.iload_n 2, 21, 0, 0, 0, [], [])), (21, (.invokevirtual 128, 24, 0, 0, 0, [], [])), (24, (.ifCond .eq 9, 27, 33, 0, 0, [], [])), (27, (.iconst 1, 28, 0, 1, 0, [], [])), (28, (.iload_n 2, 29, 0, 0, 0, [], [])), (29, (.ishl, 30, 0, 0, 0, [], [])), (30, (.goto 4, 33, 34, 0, 0, [], []))],
  [(33, (.iconst 0, 34, 0, 0, 0, [], [])), (34, (.ior, 35, 0, 0, 0, [], [])), (35, (.istore_n 1, 36, 0, 0, 0, [], [])), (36, (.iinc 2 1, 39, 0, 1, 0, [], [])), (39, (.goto (-31), 42, 8, 0, 0, [], [])), (42, (.iload_n 1, 43, 0, 0, 0, [], [])), (43, (.ireturn, 44, 0, 0, 0, [], []))]]
noncomputable abbrev zT_170 : zT := (12, zI_170, 1, 3) -- X12_crackSet
noncomputable def zI_171 : List (List (Nat × zE)) := [[(0, (.aload_n 0, 1, 0, 0, 0, [], [])), (1, (.invokevirtual 131, 4, 0, 0, 0, [], [])), (4, (.ifCond .ne 7, 7, 11, 0, 0, [], [])), (7, (.iconst 1, 8, 0, 1, 0, [], [])), (8, (.goto 4, 11, 12, 0, 0, [], [])), (11, (.iconst 0, 12, 0, 0, 0, [], [])), (12, (.ireturn, 13, 0, 0, 0, [], []))]]
noncomputable abbrev zT_171 : zT := (12, zI_171, 3, 1) -- X12_isSafe
noncomputable def zI_172 : List (List (Nat × zE)) := [[(0, (.aload_n 0, 1, 0, 0, 0, [], [])), (1, (.invokevirtual 135, 4, 0, 0, 0, [], [])), (4, (.aload_n 0, 5, 0, 0, 0, [], [])), (5, (.invokevirtual 125, 8, 0, 0, 0, [], [])), (8, (.return_, 9, 0, 0, 0, [], []))]]
noncomputable abbrev zT_172 : zT := (12, zI_172, 0, 1) -- X12_findAll
noncomputable def zI_173 : List (List (Nat × zE)) := [[(0, (.aload_n 0, 1, 0, 0, 0, [], [])), (1, (.iload_n 1, 2, 0, 0, 0, [], [])), (2, (.invokevirtual 84, 5, 0, 0, 0, [], [])), (5, (.ifCond .eq 15, 8, 20, 0, 0, [], [])), (8, (.iload_n 2, 9, 0, 0, 0, [], [])), (9, (.i2l, 10, 0, 0, 0, [], [])), (10, (.lconst 0, 11, 0, 0, 0, [], [])), (11, (.ldc2_w 138, 14, 0, 0, 6, [], [])), (14, (.invokestatic 67, 17, 0, 0, 0, [], [])), (17, (.ifCond .ne 5, 20, 22, 0, 0, [], [])), (20, (.iconst (-1), 21, 0, (-1), 0, [], [])), (21, (.ireturn, 22, 0, 0, 0, [], [])), (22, (.aload_n 0, 23, 0, 0, 0, [], [])), (23, (.invokevirtual 140, 26, 0, 0, 0, [], [])), (26, (.iload_n 2, 27, 0, 0, 0, [], [])), (27, (.tableswitch 96 1 6 #[37, 96, 96, 56, 63, 70], 64, 123, 0, 0, [(1, 64), (2, 123), (3, 123), (4, 83), (5, 90), (6, 97)], []))],
  [],
  [(64, (.aload_n 0, 65, 0, 0, 0, [], [])), (65, (.iload_n 1, 66, 0, 0, 0, [], [])), (66, (.invokevirtual 112, 69, 0, 0, 0, [], [])), (69, (.ifCond .ge 8, 72, 77, 0, 0, [], [])), (72, (.bipush (-9), 74, 0, (-9), 0, [], [])), (74, (.goto 8, 77, 82, 0, 0, [], [])), (77, (.aload_n 0, 78, 0, 0, 0, [], [])), (78, (.iload_n 1, 79, 0, 0, 0, [], [])), (79, (.invokevirtual 112, 82, 0, 0, 0, [], [])), (82, (.ireturn, 83, 0, 0, 0, [], [])), (83, (.aload_n 0, 84, 0, 0, 0, [], [])), (84, (.getfield 22, 87, 0, 0, 0, [], [])), (87, (.iload_n 1, 88, 0, 0, 0, [], [])), (88, (.iaload, 89, 0, 0, 0, [], [])), (89, (.ireturn, 90, 0, 0, 0, [], [])), (90, (.aload_n 0, 91, 0, 0, 0, [], [])), (91, (.getfield 25, 94, 0, 0, 0, [], [])), (94, (.iload_n 1, 95, 0, 0, 0, [], [])), (95, (.iaload, 96, 0, 0, 0, [], []))],
  [(96, (.ireturn, 97, 0, 0, 0, [], [])), (97, (.aload_n 0, 98, 0, 0, 0, [], [])), (98, (.iload_n 1, 99, 0, 0, 0, [], [])), (99, (.invokevirtual 92, 102, 0, 0, 0, [], [])), (102, (.ifCond .eq 7, 105, 109, 0, 0, [], [])), (105, (.iconst 2, 106, 0, 2, 0, [], [])), (106, (.goto 16, 109, 122, 0, 0, [], [])), (109, (.aload_n 0, 110, 0, 0, 0, [], [])), (110, (.iload_n 1, 111, 0, 0, 0, [], [])), (111, (.invokevirtual 128, 114, 0, 0, 0, [], [])), (114, (.ifCond .eq 7, 117, 121, 0, 0, [], [])), (117, (.iconst 1, 118, 0, 1, 0, [], [])), (118, (.goto 4, 121, 122, 0, 0, [], [])), (121, (.iconst 0, 122, 0, 0, 0, [], [])), (122, (.ireturn, 123, 0, 0, 0, [], [])), (123, (.aload_n 0, 124, 0, 0, 0, [], [])), (124, (.iload_n 1, 125, 0, 0, 0, [], [])), (125, (.iload_n 2, 126, 0, 0, 0, [], [])), (126, (.invokevirtual 75, 129, 0, 0, 0, [], []))],
  [(129, (.ireturn, 130, 0, 0, 0, [], []))]]
noncomputable abbrev zT_173 : zT := (12, zI_173, 1, 3) -- X12_boughOf
noncomputable def zI_174 : List (List (Nat × zE)) := [[(0, (.aload_n 0, 1, 0, 0, 0, [], [])), (1, (.iload_n 1, 2, 0, 0, 0, [], [])), (2, (.invokevirtual 84, 5, 0, 0, 0, [], [])), (5, (.ifCond .eq 11, 8, 16, 0, 0, [], [])), (8, (.iload_n 2, 9, 0, 0, 0, [], [])), (9, (.iload_n 3, 10, 0, 0, 0, [], [])), (10, (.invokestatic 88, 13, 0, 0, 0, [], [])), (13, (.ifCond .ne 5, 16, 18, 0, 0, [], [])), (16, (.iconst (-1), 17, 0, (-1), 0, [], [])), (17, (.ireturn, 18, 0, 0, 0, [], [])), (18, (.aload_n 0, 19, 0, 0, 0, [], [])), (19, (.iload_n 1, 20, 0, 0, 0, [], [])), (20, (.iload_n 2, 21, 0, 0, 0, [], [])), (21, (.invokevirtual 75, 24, 0, 0, 0, [], [])), (24, (.istore 4, 26, 0, 0, 0, [], [])), (26, (.aload_n 0, 27, 0, 0, 0, [], [])), (27, (.getfield 7, 30, 0, 0, 0, [], [])), (30, (.iload_n 1, 31, 0, 0, 0, [], [])), (31, (.iload_n 2, 32, 0, 0, 0, [], []))],
  [(32, (.invokestatic 71, 35, 0, 0, 0, [], [])), (35, (.iload_n 3, 36, 0, 0, 0, [], [])), (36, (.iastore, 37, 0, 0, 0, [], [])), (37, (.iload 4, 39, 0, 0, 0, [], [])), (39, (.ireturn, 40, 0, 0, 0, [], []))]]
noncomputable abbrev zT_174 : zT := (12, zI_174, 1, 5) -- X12_change
noncomputable def zI_175 : List (List (Nat × zE)) := [[(0, (.aload_n 0, 1, 0, 0, 0, [], [])), (1, (.iload_n 1, 2, 0, 0, 0, [], [])), (2, (.invokevirtual 84, 5, 0, 0, 0, [], [])), (5, (.ifCond .eq 15, 8, 20, 0, 0, [], [])), (8, (.iload_n 2, 9, 0, 0, 0, [], [])), (9, (.i2l, 10, 0, 0, 0, [], [])), (10, (.lconst 1, 11, 0, 0, 1, [], [])), (11, (.ldc2_w 82, 14, 0, 0, 5, [], [])), (14, (.invokestatic 67, 17, 0, 0, 0, [], [])), (17, (.ifCond .ne 5, 20, 22, 0, 0, [], [])), (20, (.iconst (-1), 21, 0, (-1), 0, [], [])), (21, (.ireturn, 22, 0, 0, 0, [], [])), (22, (.aload_n 0, 23, 0, 0, 0, [], [])), (23, (.iload_n 1, 24, 0, 0, 0, [], [])), (24, (.iconst 0, 25, 0, 0, 0, [], [])), (25, (.invokevirtual 75, 28, 0, 0, 0, [], [])), (28, (.istore_n 3, 29, 0, 0, 0, [], [])), (29, (.aload_n 0, 30, 0, 0, 0, [], [])), (30, (.getfield 7, 33, 0, 0, 0, [], []))],
  [(33, (.iload_n 1, 34, 0, 0, 0, [], [])), (34, (.iconst 0, 35, 0, 0, 0, [], [])), (35, (.invokestatic 71, 38, 0, 0, 0, [], [])), (38, (.iload_n 2, 39, 0, 0, 0, [], [])), (39, (.iastore, 40, 0, 0, 0, [], [])), (40, (.iload_n 3, 41, 0, 0, 0, [], [])), (41, (.ireturn, 42, 0, 0, 0, [], []))]]
noncomputable abbrev zT_175 : zT := (12, zI_175, 1, 4) -- X12_graft
noncomputable def zI_176 : List (List (Nat × zE)) := [[(0, (.iload_n 1, 1, 0, 0, 0, [], [])), (1, (.i2l, 2, 0, 0, 0, [], [])), (2, (.lconst 0, 3, 0, 0, 0, [], [])), (3, (.lconst 1, 4, 0, 0, 1, [], [])), (4, (.invokestatic 67, 7, 0, 0, 0, [], [])), (7, (.ifCond .eq 15, 10, 22, 0, 0, [], [])), (10, (.iload_n 2, 11, 0, 0, 0, [], [])), (11, (.i2l, 12, 0, 0, 0, [], [])), (12, (.lconst 0, 13, 0, 0, 0, [], [])), (13, (.ldc2_w 78, 16, 0, 0, 9, [], [])), (16, (.invokestatic 67, 19, 0, 0, 0, [], [])), (19, (.ifCond .ne 5, 22, 24, 0, 0, [], [])), (22, (.iconst (-1), 23, 0, (-1), 0, [], [])), (23, (.ireturn, 24, 0, 0, 0, [], [])), (24, (.aload_n 0, 25, 0, 0, 0, [], [])), (25, (.getfield 7, 28, 0, 0, 0, [], [])), (28, (.iconst 4, 29, 0, 4, 0, [], [])), (29, (.iload_n 1, 30, 0, 0, 0, [], [])), (30, (.iadd, 31, 0, 0, 0, [], [])), (31, (.iaload, 32, 0, 0, 0, [], []))],
  [(32, (.istore_n 3, 33, 0, 0, 0, [], [])), (33, (.aload_n 0, 34, 0, 0, 0, [], [])), (34, (.getfield 7, 37, 0, 0, 0, [], [])), (37, (.iconst 4, 38, 0, 4, 0, [], [])), (38, (.iload_n 1, 39, 0, 0, 0, [], [])), (39, (.iadd, 40, 0, 0, 0, [], [])), (40, (.iload_n 2, 41, 0, 0, 0, [], [])), (41, (.iastore, 42, 0, 0, 0, [], [])), (42, (.iload_n 3, 43, 0, 0, 0, [], [])), (43, (.ireturn, 44, 0, 0, 0, [], []))]]
noncomputable abbrev zT_176 : zT := (12, zI_176, 1, 4) -- X12_weather
noncomputable def zI_177 : List (List (Nat × zE)) := [[(0, (.bipush 52, 2, 0, 52, 0, [], [])), (2, (.iconst 3, 3, 0, 3, 0, [], [])), (3, (.iload_n 0, 4, 0, 0, 0, [], [])), (4, (.imul, 5, 0, 0, 0, [], [])), (5, (.iadd, 6, 0, 0, 0, [], [])), (6, (.iload_n 1, 7, 0, 0, 0, [], [])), (7, (.iadd, 8, 0, 0, 0, [], [])), (8, (.ireturn, 9, 0, 0, 0, [], []))]]
noncomputable abbrev zT_177 : zT := (12, zI_177, 1, 2) -- X12_where
noncomputable def zI_178 : List (List (Nat × zE)) := [[(0, (.aload_n 0, 1, 0, 0, 0, [], [])), (1, (.getfield 7, 4, 0, 0, 0, [], [])), (4, (.iload_n 1, 5, 0, 0, 0, [], [])), (5, (.iload_n 2, 6, 0, 0, 0, [], [])), (6, (.invokestatic 143, 9, 0, 0, 0, [], [])), (9, (.iaload, 10, 0, 0, 0, [], [])), (10, (.ireturn, 11, 0, 0, 0, [], []))]]
noncomputable abbrev zT_178 : zT := (12, zI_178, 1, 3) -- X12_whose
noncomputable def zI_179 : List (List (Nat × zE)) := [[(0, (.aload_n 0, 1, 0, 0, 0, [], [])), (1, (.iload_n 1, 2, 0, 0, 0, [], [])), (2, (.iconst 2, 3, 0, 2, 0, [], [])), (3, (.invokevirtual 118, 6, 0, 0, 0, [], [])), (6, (.iconst 1, 7, 0, 1, 0, [], [])), (7, (.isub, 8, 0, 0, 0, [], [])), (8, (.ireturn, 9, 0, 0, 0, [], []))]]
noncomputable abbrev zT_179 : zT := (12, zI_179, 1, 2) -- X12_seatOf
noncomputable def zI_180 : List (List (Nat × zE)) := [[(0, (.aload_n 0, 1, 0, 0, 0, [], [])), (1, (.getfield 7, 4, 0, 0, 0, [], [])), (4, (.iload_n 1, 5, 0, 0, 0, [], [])), (5, (.iconst 2, 6, 0, 2, 0, [], [])), (6, (.invokestatic 143, 9, 0, 0, 0, [], [])), (9, (.iload_n 2, 10, 0, 0, 0, [], [])), (10, (.iconst 1, 11, 0, 1, 0, [], [])), (11, (.iadd, 12, 0, 0, 0, [], [])), (12, (.iastore, 13, 0, 0, 0, [], [])), (13, (.return_, 14, 0, 0, 0, [], []))]]
noncomputable abbrev zT_180 : zT := (12, zI_180, 0, 3) -- X12_seats
noncomputable def zI_181 : List (List (Nat × zE)) := [[(0, (.iload_n 1, 1, 0, 0, 0, [], [])), (1, (.i2l, 2, 0, 0, 0, [], [])), (2, (.lconst 1, 3, 0, 0, 1, [], [])), (3, (.ldc2_w 146, 6, 0, 0, 200, [], [])), (6, (.invokestatic 67, 9, 0, 0, 0, [], [])), (9, (.ifCond .eq 13, 12, 22, 0, 0, [], [])), (12, (.iload_n 2, 13, 0, 0, 0, [], [])), (13, (.i2l, 14, 0, 0, 0, [], [])), (14, (.lconst 0, 15, 0, 0, 0, [], [])), (15, (.lconst 1, 16, 0, 0, 1, [], [])), (16, (.invokestatic 67, 19, 0, 0, 0, [], [])), (19, (.ifCond .ne 5, 22, 24, 0, 0, [], [])), (22, (.iconst (-1), 23, 0, (-1), 0, [], [])), (23, (.ireturn, 24, 0, 0, 0, [], [])), (24, (.aload_n 0, 25, 0, 0, 0, [], [])), (25, (.getfield 7, 28, 0, 0, 0, [], [])), (28, (.iconst 2, 29, 0, 2, 0, [], [])), (29, (.iaload, 30, 3, 0, 0, [], [])), (30, (.bipush 8, 32, 0, 8, 0, [], []))],
  [(32, (.if_icmp .ne 6, 35, 38, 0, 0, [], [])), (35, (.bipush (-2), 37, 0, (-2), 0, [], [])), (37, (.ireturn, 38, 0, 0, 0, [], [])), (38, (.aload_n 0, 39, 0, 0, 0, [], [])), (39, (.getfield 7, 42, 0, 0, 0, [], [])), (42, (.iconst 2, 43, 0, 2, 0, [], [])), (43, (.iaload, 44, 3, 0, 0, [], [])), (44, (.istore_n 3, 45, 0, 0, 0, [], [])), (45, (.aload_n 0, 46, 0, 0, 0, [], [])), (46, (.getfield 7, 49, 0, 0, 0, [], [])), (49, (.iload_n 3, 50, 0, 0, 0, [], [])), (50, (.iconst 0, 51, 0, 0, 0, [], [])), (51, (.invokestatic 143, 54, 0, 0, 0, [], [])), (54, (.iload_n 1, 55, 0, 0, 0, [], [])), (55, (.iastore, 56, 0, 0, 0, [], [])), (56, (.aload_n 0, 57, 0, 0, 0, [], [])), (57, (.getfield 7, 60, 0, 0, 0, [], [])), (60, (.iload_n 3, 61, 0, 0, 0, [], [])), (61, (.iconst 1, 62, 0, 1, 0, [], [])), (62, (.invokestatic 143, 65, 0, 0, 0, [], []))],
  [(65, (.iload_n 2, 66, 0, 0, 0, [], [])), (66, (.iastore, 67, 0, 0, 0, [], [])), (67, (.aload_n 0, 68, 0, 0, 0, [], [])), (68, (.getfield 7, 71, 0, 0, 0, [], [])), (71, (.iload_n 3, 72, 0, 0, 0, [], [])), (72, (.iconst 2, 73, 0, 2, 0, [], [])), (73, (.invokestatic 143, 76, 0, 0, 0, [], [])), (76, (.iconst 0, 77, 0, 0, 0, [], [])), (77, (.iastore, 78, 0, 0, 0, [], [])), (78, (.aload_n 0, 79, 0, 0, 0, [], [])), (79, (.getfield 7, 82, 0, 0, 0, [], [])), (82, (.iconst 2, 83, 0, 2, 0, [], [])), (83, (.dup2, 84, 0, 0, 0, [], [])), (84, (.iaload, 85, 3, 0, 0, [], [])), (85, (.iconst 1, 86, 0, 1, 0, [], [])), (86, (.iadd, 87, 0, 0, 0, [], [])), (87, (.iastore, 88, 3, 0, 0, [], [])), (88, (.iload_n 3, 89, 0, 0, 0, [], [])), (89, (.ireturn, 90, 0, 0, 0, [], []))]]
noncomputable abbrev zT_181 : zT := (12, zI_181, 1, 4) -- X12_person
noncomputable def zI_182 : List (List (Nat × zE)) := [[(0, (.aload_n 0, 1, 0, 0, 0, [], [])), (1, (.iload_n 1, 2, 0, 0, 0, [], [])), (2, (.invokevirtual 115, 5, 0, 0, 0, [], [])), (5, (.ifCond .ge 8, 8, 13, 0, 0, [], [])), (8, (.bipush (-9), 10, 0, (-9), 0, [], [])), (10, (.goto 8, 13, 18, 0, 0, [], [])), (13, (.aload_n 0, 14, 0, 0, 0, [], [])), (14, (.iload_n 1, 15, 0, 0, 0, [], [])), (15, (.invokevirtual 115, 18, 0, 0, 0, [], [])), (18, (.ireturn, 19, 0, 0, 0, [], []))]]
noncomputable abbrev zT_182 : zT := (12, zI_182, 1, 2) -- X12_toldSeat
noncomputable def zI_183 : List (List (Nat × zE)) := [[(0, (.aload_n 0, 1, 0, 0, 0, [], [])), (1, (.iload_n 1, 2, 0, 0, 0, [], [])), (2, (.invokevirtual 148, 5, 0, 0, 0, [], [])), (5, (.ifCond .eq 15, 8, 20, 0, 0, [], [])), (8, (.iload_n 2, 9, 0, 0, 0, [], [])), (9, (.i2l, 10, 0, 0, 0, [], [])), (10, (.lconst 0, 11, 0, 0, 0, [], [])), (11, (.ldc2_w 151, 14, 0, 0, 2, [], [])), (14, (.invokestatic 67, 17, 0, 0, 0, [], [])), (17, (.ifCond .ne 5, 20, 22, 0, 0, [], [])), (20, (.iconst (-1), 21, 0, (-1), 0, [], [])), (21, (.ireturn, 22, 0, 0, 0, [], [])), (22, (.iload_n 2, 23, 0, 0, 0, [], [])), (23, (.iconst 2, 24, 0, 2, 0, [], [])), (24, (.if_icmp .ge 12, 27, 36, 0, 0, [], [])), (27, (.aload_n 0, 28, 0, 0, 0, [], [])), (28, (.iload_n 1, 29, 0, 0, 0, [], [])), (29, (.iload_n 2, 30, 0, 0, 0, [], [])), (30, (.invokevirtual 118, 33, 0, 0, 0, [], []))],
  [(33, (.goto 8, 36, 41, 0, 0, [], [])), (36, (.aload_n 0, 37, 0, 0, 0, [], [])), (37, (.iload_n 1, 38, 0, 0, 0, [], [])), (38, (.invokevirtual 153, 41, 0, 0, 0, [], [])), (41, (.ireturn, 42, 0, 0, 0, [], []))]]
noncomputable abbrev zT_183 : zT := (12, zI_183, 1, 3) -- X12_personOf
noncomputable def zI_184 : List (List (Nat × zE)) := [[(0, (.aload_n 0, 1, 0, 0, 0, [], [])), (1, (.iload_n 1, 2, 0, 0, 0, [], [])), (2, (.invokevirtual 148, 5, 0, 0, 0, [], [])), (5, (.ifCond .eq 11, 8, 16, 0, 0, [], [])), (8, (.aload_n 0, 9, 0, 0, 0, [], [])), (9, (.iload_n 2, 10, 0, 0, 0, [], [])), (10, (.invokevirtual 84, 13, 0, 0, 0, [], [])), (13, (.ifCond .ne 5, 16, 18, 0, 0, [], [])), (16, (.iconst (-1), 17, 0, (-1), 0, [], [])), (17, (.ireturn, 18, 0, 0, 0, [], [])), (18, (.aload_n 0, 19, 0, 0, 0, [], [])), (19, (.iload_n 2, 20, 0, 0, 0, [], [])), (20, (.invokevirtual 92, 23, 0, 0, 0, [], [])), (23, (.ifCond .eq 6, 26, 29, 0, 0, [], [])), (26, (.bipush (-4), 28, 0, (-4), 0, [], [])), (28, (.ireturn, 29, 0, 0, 0, [], [])), (29, (.aload_n 0, 30, 0, 0, 0, [], [])), (30, (.iload_n 1, 31, 0, 0, 0, [], [])), (31, (.invokevirtual 153, 34, 0, 0, 0, [], []))],
  [(34, (.istore_n 3, 35, 0, 0, 0, [], [])), (35, (.aload_n 0, 36, 0, 0, 0, [], [])), (36, (.iload_n 1, 37, 0, 0, 0, [], [])), (37, (.iload_n 2, 38, 0, 0, 0, [], [])), (38, (.invokevirtual 156, 41, 0, 0, 0, [], [])), (41, (.iload_n 3, 42, 0, 0, 0, [], [])), (42, (.ireturn, 43, 0, 0, 0, [], []))]]
noncomputable abbrev zT_184 : zT := (12, zI_184, 1, 4) -- X12_sit
noncomputable def zI_185 : List (List (Nat × zE)) := [[(0, (.aload_n 0, 1, 0, 0, 0, [], [])), (1, (.iload_n 1, 2, 0, 0, 0, [], [])), (2, (.invokevirtual 148, 5, 0, 0, 0, [], [])), (5, (.ifCond .ne 5, 8, 10, 0, 0, [], [])), (8, (.iconst (-1), 9, 0, (-1), 0, [], [])), (9, (.ireturn, 10, 0, 0, 0, [], [])), (10, (.aload_n 0, 11, 0, 0, 0, [], [])), (11, (.iload_n 1, 12, 0, 0, 0, [], [])), (12, (.invokevirtual 153, 15, 0, 0, 0, [], [])), (15, (.istore_n 2, 16, 0, 0, 0, [], [])), (16, (.aload_n 0, 17, 0, 0, 0, [], [])), (17, (.iload_n 1, 18, 0, 0, 0, [], [])), (18, (.iconst (-1), 19, 0, (-1), 0, [], [])), (19, (.invokevirtual 156, 22, 0, 0, 0, [], [])), (22, (.iload_n 2, 23, 0, 0, 0, [], [])), (23, (.ireturn, 24, 0, 0, 0, [], []))]]
noncomputable abbrev zT_185 : zT := (12, zI_185, 1, 3) -- X12_down
noncomputable def zI_186 : List (List (Nat × zE)) := [[(0, (.aload_n 0, 1, 0, 0, 0, [], [])), (1, (.invokevirtual 135, 4, 0, 0, 0, [], [])), (4, (.aload_n 0, 5, 0, 0, 0, [], [])), (5, (.invokevirtual 131, 8, 0, 0, 0, [], [])), (8, (.ireturn, 9, 0, 0, 0, [], []))]]
noncomputable abbrev zT_186 : zT := (12, zI_186, 1, 1) -- X12_cracks
noncomputable def zI_187 : List (List (Nat × zE)) := [[(0, (.aload_n 0, 1, 0, 0, 0, [], [])), (1, (.invokevirtual 125, 4, 0, 0, 0, [], [])), (4, (.iconst (-1), 5, 0, (-1), 0, [], [])), (5, (.istore_n 1, 6, 0, 0, 0, [], [])), (6, (.iconst 0, 7, 0, 0, 0, [], [])), (7, (.istore_n 2, 8, 0, 0, 0, [], [])), (8, (.iload_n 2, 9, 0, 0, 0, [], [true, true, true])), (9, (.aload_n 0, 10, 0, 0, 0, [], [])), (10, (.getfield 7, 13, 0, 0, 0, [], [])), (13, (.iconst 0, 14, 0, 0, 0, [], [])), (14, (.iaload, 15, 1, 0, 0, [], [])), (15, (.if_icmp .ge 56, 18, 71, 0, 0, [], [])), (18, (.aload_n 0, 19, 0, 0, 0, [], [])), (19, (.iload_n 2, 20, 0, 0, 0, [], [])), (20, (.invokevirtual 92, 23, 0, 0, 0, [], [])), (23, (.ifCond .ne 40, 26, 63, 0, 0, [], [])), (26, (.iload_n 1, 27, 0, 0, 0, [], [])), (27, (.ifCond .lt 32, 30, 59, 0, 0, [], [])), (30, (.aload_n 0, 31, 0, 0, 0, [], [])), (31, (.getfield 25, 34, 0, 0, 0, [], []))],
  [(34, (.iload_n 2, 35, 0, 0, 0, [], [])), (35, (.iaload, 36, 0, 0, 0, [], [])), (36, (.aload_n 0, 37, 0, 0, 0, [], [])), (37, (.getfield 22, 40, 0, 0, 0, [], [])), (40, (.iload_n 2, 41, 0, 0, 0, [], [])), (41, (.iaload, 42, 0, 0, 0, [], [])), (42, (.isub, 43, 0, 0, 0, [], [])), (43, (.aload_n 0, 44, 0, 0, 0, [], [])), (44, (.getfield 25, 47, 0, 0, 0, [], [])), (47, (.iload_n 1, 48, 0, 0, 0, [], [])), (48, (.iaload, 49, 0, 0, 0, [], [])), (49, (.aload_n 0, 50, 0, 0, 0, [], [])), (50, (.getfield 22, 53, 0, 0, 0, [], [])), (53, (.iload_n 1, 54, 0, 0, 0, [], [])), (54, (.iaload, 55, 0, 0, 0, [], [])), (55, (.isub, 56, 0, 0, 0, [], [])), (56, (.if_icmp .le 7, 59, 63, 0, 0, [], [])), (59, (.iload_n 2, 60, 0, 0, 0, [], [])), (60, (.goto 4, 63, 64, 0, 0, [], [])), (63, (.iload_n 1, 64, 0, 0, 0, [], []))],
  [(64, (.istore_n 1, 65, 0, 0, 0, [], [])), (65, (.iinc 2 1, 68, 0, 1, 0, [], [])), (68, (.goto (-60), 71, 8, 0, 0, [], [])), (71, (.iload_n 1, 72, 0, 0, 0, [], [])), (72, (.ireturn, 73, 0, 0, 0, [], []))]]
noncomputable abbrev zT_187 : zT := (12, zI_187, 1, 3) -- X12_worstOf
noncomputable def zI_188 : List (List (Nat × zE)) := [[(0, (.aload_n 0, 1, 0, 0, 0, [], [])), (1, (.invokevirtual 135, 4, 0, 0, 0, [], [])), (4, (.aload_n 0, 5, 0, 0, 0, [], [])), (5, (.invokevirtual 159, 8, 0, 0, 0, [], [])), (8, (.istore_n 1, 9, 0, 0, 0, [], [])), (9, (.iload_n 1, 10, 0, 0, 0, [], [])), (10, (.ifCond .ge 8, 13, 18, 0, 0, [], [])), (13, (.bipush (-3), 15, 0, (-3), 0, [], [])), (15, (.goto 4, 18, 19, 0, 0, [], [])), (18, (.iload_n 1, 19, 0, 0, 0, [], [])), (19, (.ireturn, 20, 0, 0, 0, [], []))]]
noncomputable abbrev zT_188 : zT := (12, zI_188, 1, 2) -- X12_worst
noncomputable def zI_189 : List (List (Nat × zE)) := [[(0, (.iload_n 1, 1, 0, 0, 0, [], [])), (1, (.istore_n 3, 2, 0, 0, 0, [], [])), (2, (.iload_n 3, 3, 0, 0, 0, [], [true, false, true, true])), (3, (.ifCond .lt 17, 6, 20, 0, 0, [], [])), (6, (.iload_n 3, 7, 0, 0, 0, [], [])), (7, (.iload_n 2, 8, 0, 0, 0, [], [])), (8, (.if_icmp .eq 12, 11, 20, 0, 0, [], [])), (11, (.aload_n 0, 12, 0, 0, 0, [], [])), (12, (.iload_n 3, 13, 0, 0, 0, [], [])), (13, (.invokevirtual 112, 16, 0, 0, 0, [], [])), (16, (.istore_n 3, 17, 0, 0, 0, [], [])), (17, (.goto (-15), 20, 2, 0, 0, [], [])), (20, (.iload_n 3, 21, 0, 0, 0, [], [])), (21, (.iload_n 2, 22, 0, 0, 0, [], [])), (22, (.if_icmp .ne 7, 25, 29, 0, 0, [], [])), (25, (.iconst 1, 26, 0, 1, 0, [], [])), (26, (.goto 4, 29, 30, 0, 0, [], [])), (29, (.iconst 0, 30, 0, 0, 0, [], [])), (30, (.ireturn, 31, 0, 0, 0, [], []))]]
noncomputable abbrev zT_189 : zT := (12, zI_189, 3, 4) -- X12_isAbove
noncomputable def zI_190 : List (List (Nat × zE)) := [[(0, (.aload_n 0, 1, 0, 0, 0, [], [])), (1, (.invokevirtual 135, 4, 0, 0, 0, [], [])), (4, (.iconst 0, 5, 0, 0, 0, [], [])), (5, (.istore_n 1, 6, 0, 0, 0, [], [])), (6, (.aload_n 0, 7, 0, 0, 0, [], [])), (7, (.invokevirtual 159, 10, 0, 0, 0, [], [])), (10, (.istore_n 2, 11, 0, 0, 0, [], [])), (11, (.iload_n 2, 12, 0, 0, 0, [], [true, true, true, false])), (12, (.ifCond .lt 114, 15, 126, 0, 0, [], [])), (15, (.aload_n 0, 16, 0, 0, 0, [], [])), (16, (.iload_n 2, 17, 0, 0, 0, [], [])), (17, (.invokevirtual 128, 20, 0, 0, 0, [], [])), (20, (.ifCond .eq 106, 23, 126, 0, 0, [], [])), (23, (.iconst 0, 24, 0, 0, 0, [], [])), (24, (.istore_n 3, 25, 0, 0, 0, [], [])), (25, (.iload_n 3, 26, 0, 0, 0, [], [true, true, true, true])), (26, (.aload_n 0, 27, 0, 0, 0, [], [])), (27, (.getfield 7, 30, 0, 0, 0, [], [])), (30, (.iconst 0, 31, 0, 0, 0, [], [])), (31, (.iaload, 32, 1, 0, 0, [], []))],
  [(32, (.if_icmp .ge 38, 35, 70, 0, 0, [], [])), (35, (.aload_n 0, 36, 0, 0, 0, [], [])), (36, (.getfield 7, 39, 0, 0, 0, [], [])), (39, (.iload_n 3, 40, 0, 0, 0, [], [])), (40, (.iconst 4, 41, 0, 4, 0, [], [])), (41, (.invokestatic 71, 44, 0, 0, 0, [], [])), (44, (.aload_n 0, 45, 0, 0, 0, [], [])), (45, (.iload_n 3, 46, 0, 0, 0, [], [])), (46, (.iload_n 2, 47, 0, 0, 0, [], [])), (47, (.invokevirtual 162, 50, 0, 0, 0, [], [])), (50, (.ifCond .eq 7, 53, 57, 0, 0, [], [])), (53, (.iconst 1, 54, 0, 1, 0, [], [])), (54, (.goto 9, 57, 63, 0, 0, [], [])), (57, (.aload_n 0, 58, 0, 0, 0, [], [])), (58, (.iload_n 3, 59, 0, 0, 0, [], [])), (59, (.iconst 4, 60, 0, 4, 0, [], [])), (60, (.invokevirtual 75, 63, 0, 0, 0, [], [])), (63, (.iastore, 64, 0, 0, 0, [], []))],
  [(64, (.iinc 3 1, 67, 0, 1, 0, [], [])), (67, (.goto (-42), 70, 25, 0, 0, [], [])), (70, (.iconst 0, 71, 0, 0, 0, [], [])), (71, (.istore_n 3, 72, 0, 0, 0, [], [])), (72, (.iload_n 3, 73, 0, 0, 0, [], [true, true, true, true])), (73, (.aload_n 0, 74, 0, 0, 0, [], [])), (74, (.getfield 7, 77, 0, 0, 0, [], [])), (77, (.iconst 2, 78, 0, 2, 0, [], [])), (78, (.iaload, 79, 3, 0, 0, [], [])), (79, (.if_icmp .ge 39, 82, 118, 0, 0, [], [])), (82, (.aload_n 0, 83, 0, 0, 0, [], [])), (83, (.iload_n 3, 84, 0, 0, 0, [], [])), (84, (.invokevirtual 115, 87, 0, 0, 0, [], [])), (87, (.ifCond .lt 25, 90, 112, 0, 0, [], [])), (90, (.aload_n 0, 91, 0, 0, 0, [], [])), (91, (.aload_n 0, 92, 0, 0, 0, [], [])), (92, (.iload_n 3, 93, 0, 0, 0, [], [])), (93, (.invokevirtual 115, 96, 0, 0, 0, [], []))],
  [(96, (.iload_n 2, 97, 0, 0, 0, [], [])), (97, (.invokevirtual 162, 100, 0, 0, 0, [], [])), (100, (.ifCond .eq 12, 103, 112, 0, 0, [], [])), (103, (.aload_n 0, 104, 0, 0, 0, [], [])), (104, (.iload_n 3, 105, 0, 0, 0, [], [])), (105, (.iconst (-1), 106, 0, (-1), 0, [], [])), (106, (.invokevirtual 156, 109, 0, 0, 0, [], [])), (109, (.iinc 1 1, 112, 0, 1, 0, [], [])), (112, (.iinc 3 1, 115, 0, 1, 0, [], [])), (115, (.goto (-43), 118, 72, 0, 0, [], [])), (118, (.aload_n 0, 119, 0, 0, 0, [], [])), (119, (.invokevirtual 159, 122, 0, 0, 0, [], [])), (122, (.istore_n 2, 123, 0, 0, 0, [], [])), (123, (.goto (-112), 126, 11, 0, 0, [], [])), (126, (.iload_n 1, 127, 0, 0, 0, [], [])), (127, (.ireturn, 128, 0, 0, 0, [], []))]]
noncomputable abbrev zT_190 : zT := (12, zI_190, 1, 4) -- X12_falls
noncomputable def zI_191 : List (List (Nat × zE)) := [[(0, (.aload_n 0, 1, 0, 0, 0, [], [])), (1, (.invokevirtual 165, 4, 0, 0, 0, [], [])), (4, (.ireturn, 5, 0, 0, 0, [], []))]]
noncomputable abbrev zT_191 : zT := (12, zI_191, 1, 1) -- X12_fall
noncomputable def zI_192 : List (List (Nat × zE)) := [[(0, (.aload_n 0, 1, 0, 0, 0, [], [])), (1, (.invokevirtual 168, 4, 0, 0, 0, [], [])), (4, (.aload_n 0, 5, 0, 0, 0, [], [])), (5, (.invokevirtual 165, 8, 0, 0, 0, [], [])), (8, (.istore_n 1, 9, 0, 0, 0, [], [])), (9, (.aload_n 0, 10, 0, 0, 0, [], [])), (10, (.invokevirtual 171, 13, 0, 0, 0, [], [])), (13, (.iload_n 1, 14, 0, 0, 0, [], [])), (14, (.ireturn, 15, 0, 0, 0, [], []))]]
noncomputable abbrev zT_192 : zT := (12, zI_192, 1, 2) -- X12_would
noncomputable def zI_193 : List (List (Nat × zE)) := [[(0, (.aload_n 0, 1, 0, 0, 0, [], [])), (1, (.invokevirtual 168, 4, 0, 0, 0, [], [])), (4, (.aload_n 0, 5, 0, 0, 0, [], [])), (5, (.invokevirtual 165, 8, 0, 0, 0, [], [])), (8, (.istore_n 1, 9, 0, 0, 0, [], [])), (9, (.aload_n 0, 10, 0, 0, 0, [], [])), (10, (.getfield 28, 13, 0, 0, 0, [], [])), (13, (.iconst 0, 14, 0, 0, 0, [], [])), (14, (.iconst 0, 15, 0, 0, 0, [], [])), (15, (.iastore, 16, 1, 0, 0, [], [])), (16, (.aload_n 0, 17, 0, 0, 0, [], [])), (17, (.getfield 28, 20, 0, 0, 0, [], [])), (20, (.iconst 1, 21, 0, 1, 0, [], [])), (21, (.iconst 0, 22, 0, 0, 0, [], [])), (22, (.iastore, 23, 2, 0, 0, [], [])), (23, (.iconst 0, 24, 0, 0, 0, [], [])), (24, (.istore_n 2, 25, 0, 0, 0, [], [])), (25, (.iload_n 2, 26, 0, 0, 0, [], [true, false, true])), (26, (.aload_n 0, 27, 0, 0, 0, [], [])), (27, (.getfield 7, 30, 0, 0, 0, [], [])), (30, (.iconst 2, 31, 0, 2, 0, [], [])), (31, (.iaload, 32, 3, 0, 0, [], []))],
  [(32, (.if_icmp .ge 41, 35, 73, 0, 0, [], [])), (35, (.aload_n 0, 36, 0, 0, 0, [], [])), (36, (.getfield 28, 39, 0, 0, 0, [], [])), (39, (.aload_n 0, 40, 0, 0, 0, [], [])), (40, (.iload_n 2, 41, 0, 0, 0, [], [])), (41, (.iconst 1, 42, 0, 1, 0, [], [])), (42, (.invokevirtual 118, 45, 0, 0, 0, [], [])), (45, (.dup2, 46, 0, 0, 0, [], [])), (46, (.iaload, 47, 0, 0, 0, [], [])), (47, (.aload_n 0, 48, 0, 0, 0, [], [])), (48, (.iload_n 2, 49, 0, 0, 0, [], [])), (49, (.invokevirtual 115, 52, 0, 0, 0, [], [])), (52, (.ifCond .ge 7, 55, 59, 0, 0, [], [])), (55, (.iconst 0, 56, 0, 0, 0, [], [])), (56, (.goto 9, 59, 65, 0, 0, [], [])), (59, (.aload_n 0, 60, 0, 0, 0, [], [])), (60, (.iload_n 2, 61, 0, 0, 0, [], [])), (61, (.iconst 0, 62, 0, 0, 0, [], [])), (62, (.invokevirtual 118, 65, 0, 0, 0, [], []))],
  [(65, (.iadd, 66, 0, 0, 0, [], [])), (66, (.iastore, 67, 0, 0, 0, [], [])), (67, (.iinc 2 1, 70, 0, 1, 0, [], [])), (70, (.goto (-45), 73, 25, 0, 0, [], [])), (73, (.aload_n 0, 74, 0, 0, 0, [], [])), (74, (.invokevirtual 171, 77, 0, 0, 0, [], [])), (77, (.return_, 78, 0, 0, 0, [], []))]]
noncomputable abbrev zT_193 : zT := (12, zI_193, 0, 3) -- X12_findStanding
noncomputable def zI_194 : List (List (Nat × zE)) := [[(0, (.iload_n 1, 1, 0, 0, 0, [], [])), (1, (.i2l, 2, 0, 0, 0, [], [])), (2, (.lconst 0, 3, 0, 0, 0, [], [])), (3, (.lconst 1, 4, 0, 0, 1, [], [])), (4, (.invokestatic 67, 7, 0, 0, 0, [], [])), (7, (.ifCond .ne 5, 10, 12, 0, 0, [], [])), (10, (.iconst (-1), 11, 0, (-1), 0, [], [])), (11, (.ireturn, 12, 0, 0, 0, [], [])), (12, (.aload_n 0, 13, 0, 0, 0, [], [])), (13, (.invokevirtual 174, 16, 0, 0, 0, [], [])), (16, (.aload_n 0, 17, 0, 0, 0, [], [])), (17, (.getfield 28, 20, 0, 0, 0, [], [])), (20, (.iload_n 1, 21, 0, 0, 0, [], [])), (21, (.iaload, 22, 0, 0, 0, [], [])), (22, (.ireturn, 23, 0, 0, 0, [], []))]]
noncomputable abbrev zT_194 : zT := (12, zI_194, 1, 2) -- X12_standing
noncomputable def zI_195 : List (List (Nat × zE)) := [[(0, (.aload_n 0, 1, 0, 0, 0, [], [])), (1, (.invokevirtual 174, 4, 0, 0, 0, [], [])), (4, (.aload_n 0, 5, 0, 0, 0, [], [])), (5, (.getfield 28, 8, 0, 0, 0, [], [])), (8, (.iconst 0, 9, 0, 0, 0, [], [])), (9, (.iaload, 10, 1, 0, 0, [], [])), (10, (.aload_n 0, 11, 0, 0, 0, [], [])), (11, (.getfield 28, 14, 0, 0, 0, [], [])), (14, (.iconst 1, 15, 0, 1, 0, [], [])), (15, (.iaload, 16, 2, 0, 0, [], [])), (16, (.if_icmp .le 7, 19, 23, 0, 0, [], [])), (19, (.iconst 0, 20, 0, 0, 0, [], [])), (20, (.goto 23, 23, 43, 0, 0, [], [])), (23, (.aload_n 0, 24, 0, 0, 0, [], [])), (24, (.getfield 28, 27, 0, 0, 0, [], [])), (27, (.iconst 1, 28, 0, 1, 0, [], [])), (28, (.iaload, 29, 2, 0, 0, [], [])), (29, (.aload_n 0, 30, 0, 0, 0, [], [])), (30, (.getfield 28, 33, 0, 0, 0, [], []))],
  [(33, (.iconst 0, 34, 0, 0, 0, [], [])), (34, (.iaload, 35, 1, 0, 0, [], [])), (35, (.if_icmp .le 7, 38, 42, 0, 0, [], [])), (38, (.iconst 1, 39, 0, 1, 0, [], [])), (39, (.goto 4, 42, 43, 0, 0, [], [])), (42, (.iconst 2, 43, 0, 2, 0, [], [])), (43, (.ireturn, 44, 0, 0, 0, [], []))]]
noncomputable abbrev zT_195 : zT := (12, zI_195, 1, 1) -- X12_verdict
noncomputable def zI_196 : List (List (Nat × zE)) := [[(0, (.aload_n 0, 1, 0, 0, 0, [], [])), (1, (.getfield 22, 4, 0, 0, 0, [], [])), (4, (.iload_n 1, 5, 0, 0, 0, [], [])), (5, (.iaload, 6, 0, 0, 0, [], [])), (6, (.aload_n 0, 7, 0, 0, 0, [], [])), (7, (.getfield 25, 10, 0, 0, 0, [], [])), (10, (.iload_n 1, 11, 0, 0, 0, [], [])), (11, (.iaload, 12, 0, 0, 0, [], [])), (12, (.isub, 13, 0, 0, 0, [], [])), (13, (.istore_n 2, 14, 0, 0, 0, [], [])), (14, (.iload_n 1, 15, 0, 0, 0, [], [])), (15, (.istore_n 3, 16, 0, 0, 0, [], [])), (16, (.iload_n 3, 17, 0, 0, 0, [], [true, false, true, true])), (17, (.ifCond .lt 47, 20, 64, 0, 0, [], [])), (20, (.aload_n 0, 21, 0, 0, 0, [], [])), (21, (.getfield 22, 24, 0, 0, 0, [], [])), (24, (.iload_n 3, 25, 0, 0, 0, [], [])), (25, (.iaload, 26, 0, 0, 0, [], [])), (26, (.aload_n 0, 27, 0, 0, 0, [], [])), (27, (.getfield 25, 30, 0, 0, 0, [], [])), (30, (.iload_n 3, 31, 0, 0, 0, [], [])), (31, (.iaload, 32, 0, 0, 0, [], []))],
  [(32, (.isub, 33, 0, 0, 0, [], [])), (33, (.iload_n 2, 34, 0, 0, 0, [], [])), (34, (.if_icmp .ge 19, 37, 53, 0, 0, [], [])), (37, (.aload_n 0, 38, 0, 0, 0, [], [])), (38, (.getfield 22, 41, 0, 0, 0, [], [])), (41, (.iload_n 3, 42, 0, 0, 0, [], [])), (42, (.iaload, 43, 0, 0, 0, [], [])), (43, (.aload_n 0, 44, 0, 0, 0, [], [])), (44, (.getfield 25, 47, 0, 0, 0, [], [])), (47, (.iload_n 3, 48, 0, 0, 0, [], [])), (48, (.iaload, 49, 0, 0, 0, [], [])), (49, (.isub, 50, 0, 0, 0, [], [])), (50, (.goto 4, 53, 54, 0, 0, [], [])), (53, (.iload_n 2, 54, 0, 0, 0, [], [])), (54, (.istore_n 2, 55, 0, 0, 0, [], [])), (55, (.aload_n 0, 56, 0, 0, 0, [], [])), (56, (.iload_n 3, 57, 0, 0, 0, [], [])), (57, (.invokevirtual 112, 60, 0, 0, 0, [], [])), (60, (.istore_n 3, 61, 0, 0, 0, [], [])), (61, (.goto (-45), 64, 16, 0, 0, [], []))],
  [(64, (.iload_n 2, 65, 0, 0, 0, [], [])), (65, (.ifCond .ge 7, 68, 72, 0, 0, [], [])), (68, (.iconst 0, 69, 0, 0, 0, [], [])), (69, (.goto 4, 72, 73, 0, 0, [], [])), (72, (.iload_n 2, 73, 0, 0, 0, [], [])), (73, (.ireturn, 74, 0, 0, 0, [], []))]]
noncomputable abbrev zT_196 : zT := (12, zI_196, 1, 4) -- X12_roomOf
noncomputable def zI_197 : List (List (Nat × zE)) := [[(0, (.aload_n 0, 1, 0, 0, 0, [], [])), (1, (.iload_n 1, 2, 0, 0, 0, [], [])), (2, (.invokevirtual 84, 5, 0, 0, 0, [], [])), (5, (.ifCond .ne 5, 8, 10, 0, 0, [], [])), (8, (.iconst (-1), 9, 0, (-1), 0, [], [])), (9, (.ireturn, 10, 0, 0, 0, [], [])), (10, (.aload_n 0, 11, 0, 0, 0, [], [])), (11, (.iload_n 1, 12, 0, 0, 0, [], [])), (12, (.invokevirtual 92, 15, 0, 0, 0, [], [])), (15, (.ifCond .eq 6, 18, 21, 0, 0, [], [])), (18, (.bipush (-4), 20, 0, (-4), 0, [], [])), (20, (.ireturn, 21, 0, 0, 0, [], [])), (21, (.aload_n 0, 22, 0, 0, 0, [], [])), (22, (.invokevirtual 140, 25, 0, 0, 0, [], [])), (25, (.aload_n 0, 26, 0, 0, 0, [], [])), (26, (.iload_n 1, 27, 0, 0, 0, [], [])), (27, (.invokevirtual 177, 30, 0, 0, 0, [], [])), (30, (.ireturn, 31, 0, 0, 0, [], []))]]
noncomputable abbrev zT_197 : zT := (12, zI_197, 1, 2) -- X12_room
noncomputable def zI_198 : List (List (Nat × zE)) := [[(0, (.aload_n 0, 1, 0, 0, 0, [], [])), (1, (.iload_n 1, 2, 0, 0, 0, [], [])), (2, (.invokevirtual 148, 5, 0, 0, 0, [], [])), (5, (.ifCond .ne 5, 8, 10, 0, 0, [], [])), (8, (.iconst (-1), 9, 0, (-1), 0, [], [])), (9, (.ireturn, 10, 0, 0, 0, [], [])), (10, (.aload_n 0, 11, 0, 0, 0, [], [])), (11, (.iload_n 1, 12, 0, 0, 0, [], [])), (12, (.invokevirtual 115, 15, 0, 0, 0, [], [])), (15, (.istore_n 2, 16, 0, 0, 0, [], [])), (16, (.aload_n 0, 17, 0, 0, 0, [], [])), (17, (.iload_n 1, 18, 0, 0, 0, [], [])), (18, (.iconst (-1), 19, 0, (-1), 0, [], [])), (19, (.invokevirtual 156, 22, 0, 0, 0, [], [])), (22, (.aload_n 0, 23, 0, 0, 0, [], [])), (23, (.invokevirtual 140, 26, 0, 0, 0, [], [])), (26, (.aload_n 0, 27, 0, 0, 0, [], [])), (27, (.iload_n 1, 28, 0, 0, 0, [], [])), (28, (.iload_n 2, 29, 0, 0, 0, [], [])), (29, (.invokevirtual 156, 32, 0, 0, 0, [], []))],
  [(32, (.iconst (-1), 33, 0, (-1), 0, [], [])), (33, (.istore_n 3, 34, 0, 0, 0, [], [])), (34, (.iconst 0, 35, 0, 0, 0, [], [])), (35, (.istore 4, 37, 0, 0, 0, [], [])), (37, (.iload 4, 39, 0, 0, 0, [], [true, false, false, true, true])), (39, (.aload_n 0, 40, 0, 0, 0, [], [])), (40, (.getfield 7, 43, 0, 0, 0, [], [])), (43, (.iconst 0, 44, 0, 0, 0, [], [])), (44, (.iaload, 45, 1, 0, 0, [], [])), (45, (.if_icmp .ge 43, 48, 88, 0, 0, [], [])), (48, (.aload_n 0, 49, 0, 0, 0, [], [])), (49, (.iload 4, 51, 0, 0, 0, [], [])), (51, (.invokevirtual 92, 54, 0, 0, 0, [], [])), (54, (.ifCond .ne 26, 57, 80, 0, 0, [], [])), (57, (.iload_n 3, 58, 0, 0, 0, [], [])), (58, (.ifCond .lt 17, 61, 75, 0, 0, [], [])), (61, (.aload_n 0, 62, 0, 0, 0, [], [])), (62, (.iload 4, 64, 0, 0, 0, [], []))],
  [(64, (.invokevirtual 177, 67, 0, 0, 0, [], [])), (67, (.aload_n 0, 68, 0, 0, 0, [], [])), (68, (.iload_n 3, 69, 0, 0, 0, [], [])), (69, (.invokevirtual 177, 72, 0, 0, 0, [], [])), (72, (.if_icmp .le 8, 75, 80, 0, 0, [], [])), (75, (.iload 4, 77, 0, 0, 0, [], [])), (77, (.goto 4, 80, 81, 0, 0, [], [])), (80, (.iload_n 3, 81, 0, 0, 0, [], [])), (81, (.istore_n 3, 82, 0, 0, 0, [], [])), (82, (.iinc 4 1, 85, 0, 1, 0, [], [])), (85, (.goto (-48), 88, 37, 0, 0, [], [])), (88, (.iload_n 3, 89, 0, 0, 0, [], [])), (89, (.ifCond .ge 8, 92, 97, 0, 0, [], [])), (92, (.bipush (-3), 94, 0, (-3), 0, [], [])), (94, (.goto 4, 97, 98, 0, 0, [], []))],
  [(97, (.iload_n 3, 98, 0, 0, 0, [], [])), (98, (.ireturn, 99, 0, 0, 0, [], []))]]
noncomputable abbrev zT_198 : zT := (12, zI_198, 1, 5) -- X12_best
noncomputable def zI_199 : List (List (Nat × zE)) := [[(0, (.aload_n 0, 1, 0, 0, 0, [], [])), (1, (.iload_n 1, 2, 0, 0, 0, [], [])), (2, (.invokevirtual 148, 5, 0, 0, 0, [], [])), (5, (.ifCond .ne 5, 8, 10, 0, 0, [], [])), (8, (.iconst (-1), 9, 0, (-1), 0, [], [])), (9, (.ireturn, 10, 0, 0, 0, [], [])), (10, (.aload_n 0, 11, 0, 0, 0, [], [])), (11, (.invokevirtual 135, 14, 0, 0, 0, [], [])), (14, (.aload_n 0, 15, 0, 0, 0, [], [])), (15, (.iload_n 1, 16, 0, 0, 0, [], [])), (16, (.invokevirtual 115, 19, 0, 0, 0, [], [])), (19, (.istore_n 2, 20, 0, 0, 0, [], [])), (20, (.iconst 0, 21, 0, 0, 0, [], [])), (21, (.istore_n 3, 22, 0, 0, 0, [], [])), (22, (.iconst 0, 23, 0, 0, 0, [], [])), (23, (.istore 4, 25, 0, 0, 0, [], [])), (25, (.iload 4, 27, 0, 0, 0, [], [true, true, true, true, true])), (27, (.aload_n 0, 28, 0, 0, 0, [], [])), (28, (.getfield 7, 31, 0, 0, 0, [], [])), (31, (.iconst 0, 32, 0, 0, 0, [], []))],
  [(32, (.iaload, 33, 1, 0, 0, [], [])), (33, (.if_icmp .ge 43, 36, 76, 0, 0, [], [])), (36, (.aload_n 0, 37, 0, 0, 0, [], [])), (37, (.iload 4, 39, 0, 0, 0, [], [])), (39, (.invokevirtual 92, 42, 0, 0, 0, [], [])), (42, (.ifCond .ne 28, 45, 70, 0, 0, [], [])), (45, (.aload_n 0, 46, 0, 0, 0, [], [])), (46, (.iload_n 1, 47, 0, 0, 0, [], [])), (47, (.iload 4, 49, 0, 0, 0, [], [])), (49, (.invokevirtual 156, 52, 0, 0, 0, [], [])), (52, (.iload_n 3, 53, 0, 0, 0, [], [])), (53, (.aload_n 0, 54, 0, 0, 0, [], [])), (54, (.invokevirtual 180, 57, 0, 0, 0, [], [])), (57, (.ifCond .eq 10, 60, 67, 0, 0, [], [])), (60, (.iconst 1, 61, 0, 1, 0, [], [])), (61, (.iload 4, 63, 0, 0, 0, [], [])), (63, (.ishl, 64, 0, 0, 0, [], []))],
  [(64, (.goto 4, 67, 68, 0, 0, [], [])), (67, (.iconst 0, 68, 0, 0, 0, [], [])), (68, (.ior, 69, 0, 0, 0, [], [])), (69, (.istore_n 3, 70, 0, 0, 0, [], [])), (70, (.iinc 4 1, 73, 0, 1, 0, [], [])), (73, (.goto (-48), 76, 25, 0, 0, [], [])), (76, (.aload_n 0, 77, 0, 0, 0, [], [])), (77, (.iload_n 1, 78, 0, 0, 0, [], [])), (78, (.iload_n 2, 79, 0, 0, 0, [], [])), (79, (.invokevirtual 156, 82, 0, 0, 0, [], [])), (82, (.iload_n 3, 83, 0, 0, 0, [], [])), (83, (.ireturn, 84, 0, 0, 0, [], []))]]
noncomputable abbrev zT_199 : zT := (12, zI_199, 1, 5) -- X12_safe
noncomputable def zI_200 : List (List (Nat × zE)) := [[(0, (.aload_n 0, 1, 0, 0, 0, [], [])), (1, (.invokevirtual 174, 4, 0, 0, 0, [], [])), (4, (.aload_n 0, 5, 0, 0, 0, [], [])), (5, (.getfield 28, 8, 0, 0, 0, [], [])), (8, (.iconst 0, 9, 0, 0, 0, [], [])), (9, (.iaload, 10, 1, 0, 0, [], [])), (10, (.aload_n 0, 11, 0, 0, 0, [], [])), (11, (.getfield 28, 14, 0, 0, 0, [], [])), (14, (.iconst 1, 15, 0, 1, 0, [], [])), (15, (.iaload, 16, 2, 0, 0, [], [])), (16, (.iadd, 17, 0, 0, 0, [], [])), (17, (.istore_n 1, 18, 0, 0, 0, [], [])), (18, (.bipush (-3), 20, 0, (-3), 0, [], [])), (20, (.istore_n 2, 21, 0, 0, 0, [], [])), (21, (.iconst 0, 22, 0, 0, 0, [], [])), (22, (.istore_n 3, 23, 0, 0, 0, [], [])), (23, (.iload_n 3, 24, 0, 0, 0, [], [true, true, true, true, false])), (24, (.aload_n 0, 25, 0, 0, 0, [], [])), (25, (.getfield 7, 28, 0, 0, 0, [], [])), (28, (.iconst 0, 29, 0, 0, 0, [], [])), (29, (.iaload, 30, 1, 0, 0, [], [])), (30, (.if_icmp .ge 102, 33, 132, 0, 0, [], []))],
  [(33, (.aload_n 0, 34, 0, 0, 0, [], [])), (34, (.iload_n 3, 35, 0, 0, 0, [], [])), (35, (.iconst 0, 36, 0, 0, 0, [], [])), (36, (.invokevirtual 75, 39, 0, 0, 0, [], [])), (39, (.istore 4, 41, 0, 0, 0, [], [])), (41, (.aload_n 0, 42, 0, 0, 0, [], [])), (42, (.getfield 7, 45, 0, 0, 0, [], [])), (45, (.iload_n 3, 46, 0, 0, 0, [], [])), (46, (.iconst 0, 47, 0, 0, 0, [], [])), (47, (.invokestatic 71, 50, 0, 0, 0, [], [])), (50, (.iconst 4, 51, 0, 4, 0, [], [])), (51, (.iastore, 52, 0, 0, 0, [], [])), (52, (.aload_n 0, 53, 0, 0, 0, [], [])), (53, (.invokevirtual 174, 56, 0, 0, 0, [], [])), (56, (.aload_n 0, 57, 0, 0, 0, [], [])), (57, (.getfield 7, 60, 0, 0, 0, [], [])), (60, (.iload_n 3, 61, 0, 0, 0, [], [])), (61, (.iconst 0, 62, 0, 0, 0, [], [])), (62, (.invokestatic 71, 65, 0, 0, 0, [], []))],
  [(65, (.iload 4, 67, 0, 0, 0, [], [])), (67, (.iastore, 68, 0, 0, 0, [], [])), (68, (.aload_n 0, 69, 0, 0, 0, [], [])), (69, (.getfield 28, 72, 0, 0, 0, [], [])), (72, (.iconst 0, 73, 0, 0, 0, [], [])), (73, (.iaload, 74, 1, 0, 0, [], [])), (74, (.aload_n 0, 75, 0, 0, 0, [], [])), (75, (.getfield 28, 78, 0, 0, 0, [], [])), (78, (.iconst 1, 79, 0, 1, 0, [], [])), (79, (.iaload, 80, 2, 0, 0, [], [])), (80, (.iadd, 81, 0, 0, 0, [], [])), (81, (.iload_n 1, 82, 0, 0, 0, [], [])), (82, (.if_icmp .le 7, 85, 89, 0, 0, [], [])), (85, (.iload_n 3, 86, 0, 0, 0, [], [])), (86, (.goto 4, 89, 90, 0, 0, [], [])), (89, (.iload_n 2, 90, 0, 0, 0, [], [])), (90, (.istore_n 2, 91, 0, 0, 0, [], [true, true, false, true, false])), (91, (.aload_n 0, 92, 0, 0, 0, [], [])), (92, (.getfield 28, 95, 0, 0, 0, [], [])), (95, (.iconst 0, 96, 0, 0, 0, [], []))],
  [(96, (.iaload, 97, 1, 0, 0, [], [])), (97, (.aload_n 0, 98, 0, 0, 0, [], [])), (98, (.getfield 28, 101, 0, 0, 0, [], [])), (101, (.iconst 1, 102, 0, 1, 0, [], [])), (102, (.iaload, 103, 2, 0, 0, [], [])), (103, (.iadd, 104, 0, 0, 0, [], [])), (104, (.iload_n 1, 105, 0, 0, 0, [], [])), (105, (.if_icmp .le 19, 108, 124, 0, 0, [], [])), (108, (.aload_n 0, 109, 0, 0, 0, [], [])), (109, (.getfield 28, 112, 0, 0, 0, [], [])), (112, (.iconst 0, 113, 0, 0, 0, [], [])), (113, (.iaload, 114, 1, 0, 0, [], [])), (114, (.aload_n 0, 115, 0, 0, 0, [], [])), (115, (.getfield 28, 118, 0, 0, 0, [], [])), (118, (.iconst 1, 119, 0, 1, 0, [], [])), (119, (.iaload, 120, 2, 0, 0, [], [])), (120, (.iadd, 121, 0, 0, 0, [], [])), (121, (.goto 4, 124, 125, 0, 0, [], [])), (124, (.iload_n 1, 125, 0, 0, 0, [], [])), (125, (.istore_n 1, 126, 0, 0, 0, [], [])), (126, (.iinc 3 1, 129, 0, 1, 0, [], []))],
  [(129, (.goto (-106), 132, 23, 0, 0, [], [])), (132, (.iload_n 2, 133, 0, 0, 0, [], [])), (133, (.ireturn, 134, 0, 0, 0, [], []))]]
noncomputable abbrev zT_200 : zT := (12, zI_200, 1, 5) -- X12_prop
noncomputable def zI_201 : List (List (Nat × zE)) := [[(0, (.aload_n 0, 1, 0, 0, 0, [], [])), (1, (.getfield 7, 4, 0, 0, 0, [], [])), (4, (.iconst 4, 5, 0, 4, 0, [], [])), (5, (.iload_n 1, 6, 0, 0, 0, [], [])), (6, (.iadd, 7, 0, 0, 0, [], [])), (7, (.iaload, 8, 0, 0, 0, [], [])), (8, (.istore_n 3, 9, 0, 0, 0, [], [])), (9, (.bipush (-3), 11, 0, (-3), 0, [], [])), (11, (.istore 4, 13, 0, 0, 0, [], [])), (13, (.iconst 0, 14, 0, 0, 0, [], [])), (14, (.istore 5, 16, 0, 0, 0, [], [])), (16, (.iload 5, 18, 0, 0, 0, [], [true, true, true, true, true, true])), (18, (.bipush 10, 20, 0, 10, 0, [], [])), (20, (.if_icmp .ge 45, 23, 65, 0, 0, [], [])), (23, (.iload 4, 25, 0, 0, 0, [], [])), (25, (.ifCond .ge 40, 28, 65, 0, 0, [], [])), (28, (.aload_n 0, 29, 0, 0, 0, [], [])), (29, (.getfield 7, 32, 0, 0, 0, [], []))],
  [(32, (.iconst 4, 33, 0, 4, 0, [], [])), (33, (.iload_n 1, 34, 0, 0, 0, [], [])), (34, (.iadd, 35, 0, 0, 0, [], [])), (35, (.iload 5, 37, 0, 0, 0, [], [])), (37, (.iastore, 38, 0, 0, 0, [], [])), (38, (.aload_n 0, 39, 0, 0, 0, [], [])), (39, (.invokevirtual 135, 42, 0, 0, 0, [], [])), (42, (.aload_n 0, 43, 0, 0, 0, [], [])), (43, (.invokevirtual 180, 46, 0, 0, 0, [], [])), (46, (.iload_n 2, 47, 0, 0, 0, [], [])), (47, (.if_icmp .ne 8, 50, 55, 0, 0, [], [])), (50, (.iload 5, 52, 0, 0, 0, [], [])), (52, (.goto 5, 55, 57, 0, 0, [], [])), (55, (.bipush (-3), 57, 0, (-3), 0, [], [])), (57, (.istore 4, 59, 0, 0, 0, [], [])), (59, (.iinc 5 1, 62, 0, 1, 0, [], [])), (62, (.goto (-46), 65, 16, 0, 0, [], []))],
  [(65, (.aload_n 0, 66, 0, 0, 0, [], [])), (66, (.getfield 7, 69, 0, 0, 0, [], [])), (69, (.iconst 4, 70, 0, 4, 0, [], [])), (70, (.iload_n 1, 71, 0, 0, 0, [], [])), (71, (.iadd, 72, 0, 0, 0, [], [])), (72, (.iload_n 3, 73, 0, 0, 0, [], [])), (73, (.iastore, 74, 0, 0, 0, [], [])), (74, (.iload 4, 76, 0, 0, 0, [], [])), (76, (.ireturn, 77, 0, 0, 0, [], []))]]
noncomputable abbrev zT_201 : zT := (12, zI_201, 1, 6) -- X12_leastOf
noncomputable def zI_202 : List (List (Nat × zE)) := [[(0, (.aload_n 0, 1, 0, 0, 0, [], [])), (1, (.iconst 1, 2, 0, 1, 0, [], [])), (2, (.iconst 0, 3, 0, 0, 0, [], [])), (3, (.invokevirtual 184, 6, 0, 0, 0, [], [])), (6, (.ireturn, 7, 0, 0, 0, [], []))]]
noncomputable abbrev zT_202 : zT := (12, zI_202, 1, 1) -- X12_windFor
noncomputable def zI_203 : List (List (Nat × zE)) := [[(0, (.aload_n 0, 1, 0, 0, 0, [], [])), (1, (.iconst 0, 2, 0, 0, 0, [], [])), (2, (.iconst 1, 3, 0, 1, 0, [], [])), (3, (.invokevirtual 184, 6, 0, 0, 0, [], [])), (6, (.ireturn, 7, 0, 0, 0, [], []))]]
noncomputable abbrev zT_203 : zT := (12, zI_203, 1, 1) -- X12_sapFor
noncomputable def zI_204 : List (List (Nat × zE)) := [[(0, (.iconst 0, 1, 0, 0, 0, [], [])), (1, (.istore_n 1, 2, 0, 0, 0, [], [])), (2, (.iload_n 0, 3, 0, 0, 0, [], [])), (3, (.istore_n 2, 4, 0, 0, 0, [], [])), (4, (.iload_n 2, 5, 0, 0, 0, [], [false, true, true])), (5, (.ifCond .eq 15, 8, 20, 0, 0, [], [])), (8, (.iinc 1 1, 11, 0, 1, 0, [], [])), (11, (.iload_n 2, 12, 0, 0, 0, [], [])), (12, (.iload_n 2, 13, 0, 0, 0, [], [])), (13, (.iconst 1, 14, 0, 1, 0, [], [])), (14, (.isub, 15, 0, 0, 0, [], [])), (15, (.iand, 16, 0, 0, 0, [], [])), (16, (.istore_n 2, 17, 0, 0, 0, [], [])), (17, (.goto (-13), 20, 4, 0, 0, [], [])), (20, (.iload_n 1, 21, 0, 0, 0, [], [])), (21, (.ireturn, 22, 0, 0, 0, [], []))]]
noncomputable abbrev zT_204 : zT := (12, zI_204, 1, 3) -- X12_ones
noncomputable def zI_205 : List (List (Nat × zE)) := [[(0, (.iload_n 1, 1, 0, 0, 0, [], [])), (1, (.i2l, 2, 0, 0, 0, [], [])), (2, (.lconst 0, 3, 0, 0, 0, [], [])), (3, (.iconst 1, 4, 0, 1, 0, [], [])), (4, (.aload_n 0, 5, 0, 0, 0, [], [])), (5, (.getfield 7, 8, 0, 0, 0, [], [])), (8, (.iconst 2, 9, 0, 2, 0, [], [])), (9, (.iaload, 10, 3, 0, 0, [], [])), (10, (.ishl, 11, 0, 0, 0, [], [])), (11, (.iconst 1, 12, 0, 1, 0, [], [])), (12, (.isub, 13, 0, 0, 0, [], [])), (13, (.i2l, 14, 0, 0, 0, [], [])), (14, (.invokestatic 67, 17, 0, 0, 0, [], [])), (17, (.ifCond .eq 15, 20, 32, 0, 0, [], [])), (20, (.iload_n 1, 21, 0, 0, 0, [], [])), (21, (.invokestatic 188, 24, 0, 0, 0, [], [])), (24, (.iconst 5, 25, 0, 5, 0, [], [])), (25, (.if_icmp .ge 7, 28, 32, 0, 0, [], [])), (28, (.iconst 1, 29, 0, 1, 0, [], [])), (29, (.goto 4, 32, 33, 0, 0, [], []))],
  [(32, (.iconst 0, 33, 0, 0, 0, [], [])), (33, (.ireturn, 34, 0, 0, 0, [], []))]]
noncomputable abbrev zT_205 : zT := (12, zI_205, 3, 2) -- X12_isParty
noncomputable def zI_206 : List (List (Nat × zE)) := [[(0, (.iload_n 1, 1, 0, 0, 0, [], [])), (1, (.aload_n 0, 2, 0, 0, 0, [], [])), (2, (.getfield 191, 5, 0, 0, 0, [], [])), (5, (.if_icmp .ne 8, 8, 13, 0, 0, [], [])), (8, (.aload_n 0, 9, 0, 0, 0, [], [])), (9, (.invokevirtual 180, 12, 0, 0, 0, [], [])), (12, (.ireturn, 13, 0, 0, 0, [], [])), (13, (.iconst 0, 14, 0, 0, 0, [], [])), (14, (.istore_n 2, 15, 0, 0, 0, [], [])), (15, (.iload_n 2, 16, 0, 0, 0, [], [true, true, true])), (16, (.aload_n 0, 17, 0, 0, 0, [], [])), (17, (.getfield 7, 20, 0, 0, 0, [], [])), (20, (.iconst 0, 21, 0, 0, 0, [], [])), (21, (.iaload, 22, 1, 0, 0, [], [])), (22, (.if_icmp .ge 47, 25, 69, 0, 0, [], [])), (25, (.aload_n 0, 26, 0, 0, 0, [], [])), (26, (.iload_n 2, 27, 0, 0, 0, [], [])), (27, (.invokevirtual 92, 30, 0, 0, 0, [], [])), (30, (.ifCond .ne 33, 33, 63, 0, 0, [], []))],
  [(33, (.aload_n 0, 34, 0, 0, 0, [], [])), (34, (.aload_n 0, 35, 0, 0, 0, [], [])), (35, (.getfield 31, 38, 0, 0, 0, [], [])), (38, (.iload_n 1, 39, 0, 0, 0, [], [])), (39, (.iaload, 40, 0, 0, 0, [], [])), (40, (.iload_n 2, 41, 0, 0, 0, [], [])), (41, (.invokevirtual 156, 44, 0, 0, 0, [], [])), (44, (.aload_n 0, 45, 0, 0, 0, [], [])), (45, (.getfield 37, 48, 0, 0, 0, [], [])), (48, (.iload_n 1, 49, 0, 0, 0, [], [])), (49, (.iload_n 2, 50, 0, 0, 0, [], [])), (50, (.iastore, 51, 0, 0, 0, [], [])), (51, (.aload_n 0, 52, 0, 0, 0, [], [])), (52, (.iload_n 1, 53, 0, 0, 0, [], [])), (53, (.iconst 1, 54, 0, 1, 0, [], [])), (54, (.iadd, 55, 0, 0, 0, [], [])), (55, (.invokevirtual 195, 58, 0, 0, 0, [], [])), (58, (.ifCond .eq 5, 61, 63, 0, 0, [], [])), (61, (.iconst 1, 62, 0, 1, 0, [], [])), (62, (.ireturn, 63, 0, 0, 0, [], [])), (63, (.iinc 2 1, 66, 0, 1, 0, [], []))],
  [(66, (.goto (-51), 69, 15, 0, 0, [], [])), (69, (.iconst 0, 70, 0, 0, 0, [], [])), (70, (.ireturn, 71, 0, 0, 0, [], []))]]
noncomputable abbrev zT_206 : zT := (12, zI_206, 3, 3) -- X12_canSeat
noncomputable def zI_207 : List (List (Nat × zE)) := [[(0, (.aload_n 0, 1, 0, 0, 0, [], [])), (1, (.iconst 0, 2, 0, 0, 0, [], [])), (2, (.putfield 191, 5, 0, 0, 0, [], [])), (5, (.iconst 0, 6, 0, 0, 0, [], [])), (6, (.istore_n 2, 7, 0, 0, 0, [], [])), (7, (.iload_n 2, 8, 0, 0, 0, [], [true, true, true, false])), (8, (.aload_n 0, 9, 0, 0, 0, [], [])), (9, (.getfield 7, 12, 0, 0, 0, [], [])), (12, (.iconst 2, 13, 0, 2, 0, [], [])), (13, (.iaload, 14, 3, 0, 0, [], [])), (14, (.if_icmp .ge 51, 17, 65, 0, 0, [], [])), (17, (.iload_n 1, 18, 0, 0, 0, [], [])), (18, (.iload_n 2, 19, 0, 0, 0, [], [])), (19, (.invokestatic 198, 22, 0, 0, 0, [], [])), (22, (.ifCond .eq 37, 25, 59, 0, 0, [], [])), (25, (.aload_n 0, 26, 0, 0, 0, [], [])), (26, (.getfield 31, 29, 0, 0, 0, [], [])), (29, (.aload_n 0, 30, 0, 0, 0, [], [])), (30, (.getfield 191, 33, 0, 0, 0, [], []))],
  [(33, (.iload_n 2, 34, 0, 0, 0, [], [])), (34, (.iastore, 35, 0, 0, 0, [], [])), (35, (.aload_n 0, 36, 0, 0, 0, [], [])), (36, (.getfield 34, 39, 0, 0, 0, [], [])), (39, (.aload_n 0, 40, 0, 0, 0, [], [])), (40, (.getfield 191, 43, 0, 0, 0, [], [])), (43, (.aload_n 0, 44, 0, 0, 0, [], [])), (44, (.iload_n 2, 45, 0, 0, 0, [], [])), (45, (.invokevirtual 115, 48, 0, 0, 0, [], [])), (48, (.iastore, 49, 0, 0, 0, [], [])), (49, (.aload_n 0, 50, 0, 0, 0, [], [])), (50, (.dup, 51, 0, 0, 0, [], [])), (51, (.getfield 191, 54, 0, 0, 0, [], [])), (54, (.iconst 1, 55, 0, 1, 0, [], [])), (55, (.iadd, 56, 0, 0, 0, [], [])), (56, (.putfield 191, 59, 0, 0, 0, [], [])), (59, (.iinc 2 1, 62, 0, 1, 0, [], [])), (62, (.goto (-55), 65, 7, 0, 0, [], []))],
  [(65, (.aload_n 0, 66, 0, 0, 0, [], [])), (66, (.invokevirtual 135, 69, 0, 0, 0, [], [])), (69, (.aload_n 0, 70, 0, 0, 0, [], [])), (70, (.iconst 0, 71, 0, 0, 0, [], [])), (71, (.invokevirtual 195, 74, 0, 0, 0, [], [])), (74, (.istore_n 2, 75, 0, 0, 0, [], [])), (75, (.iconst 0, 76, 0, 0, 0, [], [])), (76, (.istore_n 3, 77, 0, 0, 0, [], [])), (77, (.iload_n 3, 78, 0, 0, 0, [], [true, false, true, true])), (78, (.aload_n 0, 79, 0, 0, 0, [], [])), (79, (.getfield 191, 82, 0, 0, 0, [], [])), (82, (.if_icmp .ge 25, 85, 107, 0, 0, [], [])), (85, (.aload_n 0, 86, 0, 0, 0, [], [])), (86, (.aload_n 0, 87, 0, 0, 0, [], [])), (87, (.getfield 31, 90, 0, 0, 0, [], [])), (90, (.iload_n 3, 91, 0, 0, 0, [], [])), (91, (.iaload, 92, 0, 0, 0, [], [])), (92, (.aload_n 0, 93, 0, 0, 0, [], [])), (93, (.getfield 34, 96, 0, 0, 0, [], []))],
  [(96, (.iload_n 3, 97, 0, 0, 0, [], [])), (97, (.iaload, 98, 0, 0, 0, [], [])), (98, (.invokevirtual 156, 101, 0, 0, 0, [], [])), (101, (.iinc 3 1, 104, 0, 1, 0, [], [])), (104, (.goto (-27), 107, 77, 0, 0, [], [])), (107, (.iload_n 2, 108, 0, 0, 0, [], [])), (108, (.ireturn, 109, 0, 0, 0, [], []))]]
noncomputable abbrev zT_207 : zT := (12, zI_207, 3, 4) -- X12_findSeating
noncomputable def zI_208 : List (List (Nat × zE)) := [[(0, (.aload_n 0, 1, 0, 0, 0, [], [])), (1, (.iload_n 1, 2, 0, 0, 0, [], [])), (2, (.invokevirtual 201, 5, 0, 0, 0, [], [])), (5, (.ifCond .eq 15, 8, 20, 0, 0, [], [])), (8, (.iload_n 2, 9, 0, 0, 0, [], [])), (9, (.i2l, 10, 0, 0, 0, [], [])), (10, (.lconst 0, 11, 0, 0, 0, [], [])), (11, (.ldc2_w 204, 14, 0, 0, 3, [], [])), (14, (.invokestatic 67, 17, 0, 0, 0, [], [])), (17, (.ifCond .ne 5, 20, 22, 0, 0, [], [])), (20, (.iconst (-1), 21, 0, (-1), 0, [], [])), (21, (.ireturn, 22, 0, 0, 0, [], [])), (22, (.aload_n 0, 23, 0, 0, 0, [], [])), (23, (.iload_n 1, 24, 0, 0, 0, [], [])), (24, (.invokevirtual 206, 27, 0, 0, 0, [], [])), (27, (.ifCond .eq 20, 30, 47, 0, 0, [], [])), (30, (.iload_n 2, 31, 0, 0, 0, [], [])), (31, (.aload_n 0, 32, 0, 0, 0, [], []))],
  [(32, (.getfield 191, 35, 0, 0, 0, [], [])), (35, (.if_icmp .ge 12, 38, 47, 0, 0, [], [])), (38, (.aload_n 0, 39, 0, 0, 0, [], [])), (39, (.getfield 37, 42, 0, 0, 0, [], [])), (42, (.iload_n 2, 43, 0, 0, 0, [], [])), (43, (.iaload, 44, 0, 0, 0, [], [])), (44, (.goto 5, 47, 49, 0, 0, [], [])), (47, (.bipush (-3), 49, 0, (-3), 0, [], [])), (49, (.ireturn, 50, 0, 0, 0, [], []))]]
noncomputable abbrev zT_208 : zT := (12, zI_208, 1, 3) -- X12_seat
noncomputable def zI_209 : List (List (Nat × zE)) := [[(0, (.aload_n 0, 1, 0, 0, 0, [], [])), (1, (.iload_n 1, 2, 0, 0, 0, [], [])), (2, (.invokevirtual 201, 5, 0, 0, 0, [], [])), (5, (.ifCond .ne 5, 8, 10, 0, 0, [], [])), (8, (.iconst (-1), 9, 0, (-1), 0, [], [])), (9, (.ireturn, 10, 0, 0, 0, [], [])), (10, (.aload_n 0, 11, 0, 0, 0, [], [])), (11, (.iload_n 1, 12, 0, 0, 0, [], [])), (12, (.invokevirtual 206, 15, 0, 0, 0, [], [])), (15, (.ifCond .ne 6, 18, 21, 0, 0, [], [])), (18, (.bipush (-3), 20, 0, (-3), 0, [], [])), (20, (.ireturn, 21, 0, 0, 0, [], [])), (21, (.iconst 0, 22, 0, 0, 0, [], [])), (22, (.istore_n 2, 23, 0, 0, 0, [], [])), (23, (.iload_n 2, 24, 0, 0, 0, [], [true, false, true])), (24, (.aload_n 0, 25, 0, 0, 0, [], [])), (25, (.getfield 191, 28, 0, 0, 0, [], [])), (28, (.if_icmp .ge 25, 31, 53, 0, 0, [], [])), (31, (.aload_n 0, 32, 0, 0, 0, [], []))],
  [(32, (.aload_n 0, 33, 0, 0, 0, [], [])), (33, (.getfield 31, 36, 0, 0, 0, [], [])), (36, (.iload_n 2, 37, 0, 0, 0, [], [])), (37, (.iaload, 38, 0, 0, 0, [], [])), (38, (.aload_n 0, 39, 0, 0, 0, [], [])), (39, (.getfield 37, 42, 0, 0, 0, [], [])), (42, (.iload_n 2, 43, 0, 0, 0, [], [])), (43, (.iaload, 44, 0, 0, 0, [], [])), (44, (.invokevirtual 156, 47, 0, 0, 0, [], [])), (47, (.iinc 2 1, 50, 0, 1, 0, [], [])), (50, (.goto (-27), 53, 23, 0, 0, [], [])), (53, (.aload_n 0, 54, 0, 0, 0, [], [])), (54, (.getfield 191, 57, 0, 0, 0, [], [])), (57, (.ireturn, 58, 0, 0, 0, [], []))]]
noncomputable abbrev zT_209 : zT := (12, zI_209, 1, 3) -- X12_seatAll
noncomputable def zI_210 : List (List (Nat × zE)) := [[(0, (.iconst 0, 1, 0, 0, 0, [], [])), (1, (.istore_n 2, 2, 0, 0, 0, [], [])), (2, (.iload_n 2, 3, 0, 0, 0, [], [true, true, true])), (3, (.aload_n 0, 4, 0, 0, 0, [], [])), (4, (.getfield 7, 7, 0, 0, 0, [], [])), (7, (.iconst 2, 8, 0, 2, 0, [], [])), (8, (.iaload, 9, 3, 0, 0, [], [])), (9, (.if_icmp .ge 29, 12, 38, 0, 0, [], [])), (12, (.aload_n 0, 13, 0, 0, 0, [], [])), (13, (.iload_n 2, 14, 0, 0, 0, [], [])), (14, (.iconst 1, 15, 0, 1, 0, [], [])), (15, (.invokevirtual 118, 18, 0, 0, 0, [], [])), (18, (.iload_n 1, 19, 0, 0, 0, [], [])), (19, (.if_icmp .ne 13, 22, 32, 0, 0, [], [])), (22, (.aload_n 0, 23, 0, 0, 0, [], [])), (23, (.iload_n 2, 24, 0, 0, 0, [], [])), (24, (.invokevirtual 115, 27, 0, 0, 0, [], [])), (27, (.ifCond .ge 5, 30, 32, 0, 0, [], [])), (30, (.iload_n 2, 31, 0, 0, 0, [], [])), (31, (.ireturn, 32, 0, 0, 0, [], []))],
  [(32, (.iinc 2 1, 35, 0, 1, 0, [], [])), (35, (.goto (-33), 38, 2, 0, 0, [], [])), (38, (.iconst (-1), 39, 0, (-1), 0, [], [])), (39, (.ireturn, 40, 0, 0, 0, [], []))]]
noncomputable abbrev zT_210 : zT := (12, zI_210, 1, 3) -- X12_idler
noncomputable def zI_211 : List (List (Nat × zE)) := [[(0, (.iload_n 1, 1, 0, 0, 0, [], [])), (1, (.iconst 2, 2, 0, 2, 0, [], [])), (2, (.if_icmp .ne 7, 5, 9, 0, 0, [], [])), (5, (.iconst 1, 6, 0, 1, 0, [], [])), (6, (.goto 13, 9, 19, 0, 0, [], [])), (9, (.iload_n 1, 10, 0, 0, 0, [], [])), (10, (.iload_n 0, 11, 0, 0, 0, [], [])), (11, (.if_icmp .ne 7, 14, 18, 0, 0, [], [])), (14, (.iconst 2, 15, 0, 2, 0, [], [])), (15, (.goto 4, 18, 19, 0, 0, [], [])), (18, (.iconst 0, 19, 0, 0, 0, [], [])), (19, (.ireturn, 20, 0, 0, 0, [], []))]]
noncomputable abbrev zT_211 : zT := (12, zI_211, 1, 2) -- X12_worthOf
noncomputable def zI_212 : List (List (Nat × zE)) := [[(0, (.aload_n 0, 1, 0, 0, 0, [], [])), (1, (.iload_n 3, 2, 0, 0, 0, [], [])), (2, (.iload 4, 4, 0, 0, 0, [], [])), (4, (.invokevirtual 156, 7, 0, 0, 0, [], [])), (7, (.aload_n 0, 8, 0, 0, 0, [], [])), (8, (.invokevirtual 180, 11, 0, 0, 0, [], [])), (11, (.ifCond .eq 16, 14, 27, 0, 0, [], [])), (14, (.aload_n 0, 15, 0, 0, 0, [], [])), (15, (.iconst 1, 16, 0, 1, 0, [], [])), (16, (.iload_n 1, 17, 0, 0, 0, [], [])), (17, (.isub, 18, 0, 0, 0, [], [])), (18, (.iload_n 2, 19, 0, 0, 0, [], [])), (19, (.iconst 1, 20, 0, 1, 0, [], [])), (20, (.isub, 21, 0, 0, 0, [], [])), (21, (.invokevirtual 209, 24, 0, 0, 0, [], [])), (24, (.goto 6, 27, 30, 0, 0, [], [])), (27, (.iconst 1, 28, 0, 1, 0, [], [])), (28, (.iload_n 1, 29, 0, 0, 0, [], [])), (29, (.isub, 30, 0, 0, 0, [], [])), (30, (.istore 5, 32, 0, 0, 0, [], []))],
  [(32, (.aload_n 0, 33, 0, 0, 0, [], [])), (33, (.iload_n 3, 34, 0, 0, 0, [], [])), (34, (.iconst (-1), 35, 0, (-1), 0, [], [])), (35, (.invokevirtual 156, 38, 0, 0, 0, [], [])), (38, (.iload 5, 40, 0, 0, 0, [], [])), (40, (.ireturn, 41, 0, 0, 0, [], []))]]
noncomputable abbrev zT_212 : zT := (12, zI_212, 1, 6) -- X12_leadsTo
noncomputable def zI_213 : List (List (Nat × zE)) := [[(0, (.iload_n 2, 1, 0, 0, 0, [], [])), (1, (.ifCond .ne 7, 4, 8, 0, 0, [], [])), (4, (.iconst (-1), 5, 0, (-1), 0, [], [])), (5, (.goto 8, 8, 13, 0, 0, [], [])), (8, (.aload_n 0, 9, 0, 0, 0, [], [])), (9, (.iload_n 1, 10, 0, 0, 0, [], [])), (10, (.invokevirtual 212, 13, 0, 0, 0, [], [])), (13, (.istore_n 3, 14, 0, 0, 0, [], [])), (14, (.iconst (-1), 15, 0, (-1), 0, [], [])), (15, (.istore 4, 17, 0, 0, 0, [], [])), (17, (.iconst 0, 18, 0, 0, 0, [], [])), (18, (.istore 5, 20, 0, 0, 0, [], [])), (20, (.iload 5, 22, 0, 0, 0, [], [true, true, true, true, true, true, false])), (22, (.aload_n 0, 23, 0, 0, 0, [], [])), (23, (.getfield 7, 26, 0, 0, 0, [], [])), (26, (.iconst 0, 27, 0, 0, 0, [], [])), (27, (.iaload, 28, 1, 0, 0, [], [])), (28, (.if_icmp .ge 62, 31, 90, 0, 0, [], [])), (31, (.iload_n 3, 32, 0, 0, 0, [], []))],
  [(32, (.ifCond .lt 58, 35, 90, 0, 0, [], [])), (35, (.aload_n 0, 36, 0, 0, 0, [], [])), (36, (.iload 5, 38, 0, 0, 0, [], [])), (38, (.invokevirtual 92, 41, 0, 0, 0, [], [])), (41, (.ifCond .ne 43, 44, 84, 0, 0, [], [])), (44, (.aload_n 0, 45, 0, 0, 0, [], [])), (45, (.iload_n 1, 46, 0, 0, 0, [], [])), (46, (.iload_n 2, 47, 0, 0, 0, [], [])), (47, (.iload_n 3, 48, 0, 0, 0, [], [])), (48, (.iload 5, 50, 0, 0, 0, [], [])), (50, (.invokevirtual 215, 53, 0, 0, 0, [], [])), (53, (.istore 6, 55, 0, 0, 0, [], [])), (55, (.iload 4, 57, 0, 0, 0, [], [])), (57, (.ifCond .lt 18, 60, 75, 0, 0, [], [])), (60, (.iload_n 1, 61, 0, 0, 0, [], [])), (61, (.iload 6, 63, 0, 0, 0, [], [])), (63, (.invokestatic 219, 66, 0, 0, 0, [], []))],
  [(66, (.iload_n 1, 67, 0, 0, 0, [], [])), (67, (.iload 4, 69, 0, 0, 0, [], [])), (69, (.invokestatic 219, 72, 0, 0, 0, [], [])), (72, (.if_icmp .le 8, 75, 80, 0, 0, [], [])), (75, (.iload 6, 77, 0, 0, 0, [], [])), (77, (.goto 5, 80, 82, 0, 0, [], [])), (80, (.iload 4, 82, 0, 0, 0, [], [])), (82, (.istore 4, 84, 0, 0, 0, [], [])), (84, (.iinc 5 1, 87, 0, 1, 0, [], [])), (87, (.goto (-67), 90, 20, 0, 0, [], [])), (90, (.iload 4, 92, 0, 0, 0, [], [])), (92, (.ifCond .ge 7, 95, 99, 0, 0, [], [])), (95, (.iconst 2, 96, 0, 2, 0, [], []))],
  [(96, (.goto 5, 99, 101, 0, 0, [], [])), (99, (.iload 4, 101, 0, 0, 0, [], [])), (101, (.ireturn, 102, 0, 0, 0, [], []))]]
noncomputable abbrev zT_213 : zT := (12, zI_213, 1, 7) -- X12_valueOf
noncomputable def zI_214 : List (List (Nat × zE)) := [[(0, (.iload_n 0, 1, 0, 0, 0, [], [])), (1, (.i2l, 2, 0, 0, 0, [], [])), (2, (.lconst 0, 3, 0, 0, 0, [], [])), (3, (.lconst 1, 4, 0, 0, 1, [], [])), (4, (.invokestatic 67, 7, 0, 0, 0, [], [])), (7, (.ifCond .eq 19, 10, 26, 0, 0, [], [])), (10, (.iload_n 1, 11, 0, 0, 0, [], [])), (11, (.i2l, 12, 0, 0, 0, [], [])), (12, (.lconst 1, 13, 0, 0, 1, [], [])), (13, (.ldc2_w 222, 16, 0, 0, 4, [], [])), (16, (.invokestatic 67, 19, 0, 0, 0, [], [])), (19, (.ifCond .eq 7, 22, 26, 0, 0, [], [])), (22, (.iconst 1, 23, 0, 1, 0, [], [])), (23, (.goto 4, 26, 27, 0, 0, [], [])), (26, (.iconst 0, 27, 0, 0, 0, [], [])), (27, (.ireturn, 28, 0, 0, 0, [], []))]]
noncomputable abbrev zT_214 : zT := (12, zI_214, 3, 2) -- X12_isGame
noncomputable def zI_215 : List (List (Nat × zE)) := [[(0, (.iload_n 1, 1, 0, 0, 0, [], [])), (1, (.iload_n 2, 2, 0, 0, 0, [], [])), (2, (.invokestatic 224, 5, 0, 0, 0, [], [])), (5, (.ifCond .ne 5, 8, 10, 0, 0, [], [])), (8, (.iconst (-1), 9, 0, (-1), 0, [], [])), (9, (.ireturn, 10, 0, 0, 0, [], [])), (10, (.aload_n 0, 11, 0, 0, 0, [], [])), (11, (.invokevirtual 135, 14, 0, 0, 0, [], [])), (14, (.aload_n 0, 15, 0, 0, 0, [], [])), (15, (.iload_n 1, 16, 0, 0, 0, [], [])), (16, (.iload_n 2, 17, 0, 0, 0, [], [])), (17, (.invokevirtual 209, 20, 0, 0, 0, [], [])), (20, (.ireturn, 21, 0, 0, 0, [], []))]]
noncomputable abbrev zT_215 : zT := (12, zI_215, 1, 3) -- X12_game
noncomputable def zI_216 : List (List (Nat × zE)) := [[(0, (.iload_n 1, 1, 0, 0, 0, [], [])), (1, (.iload_n 2, 2, 0, 0, 0, [], [])), (2, (.invokestatic 224, 5, 0, 0, 0, [], [])), (5, (.ifCond .ne 5, 8, 10, 0, 0, [], [])), (8, (.iconst (-1), 9, 0, (-1), 0, [], [])), (9, (.ireturn, 10, 0, 0, 0, [], [])), (10, (.aload_n 0, 11, 0, 0, 0, [], [])), (11, (.invokevirtual 135, 14, 0, 0, 0, [], [])), (14, (.aload_n 0, 15, 0, 0, 0, [], [])), (15, (.iload_n 1, 16, 0, 0, 0, [], [])), (16, (.iload_n 2, 17, 0, 0, 0, [], [])), (17, (.invokevirtual 209, 20, 0, 0, 0, [], [])), (20, (.istore_n 3, 21, 0, 0, 0, [], [])), (21, (.aload_n 0, 22, 0, 0, 0, [], [])), (22, (.iload_n 1, 23, 0, 0, 0, [], [])), (23, (.invokevirtual 212, 26, 0, 0, 0, [], [])), (26, (.istore 4, 28, 0, 0, 0, [], [])), (28, (.iconst 0, 29, 0, 0, 0, [], [])), (29, (.istore 5, 31, 0, 0, 0, [], [])), (31, (.iload 5, 33, 0, 0, 0, [], [true, true, true, true, true, true]))],
  [(33, (.aload_n 0, 34, 0, 0, 0, [], [])), (34, (.getfield 7, 37, 0, 0, 0, [], [])), (37, (.iconst 0, 38, 0, 0, 0, [], [])), (38, (.iaload, 39, 1, 0, 0, [], [])), (39, (.if_icmp .ge 40, 42, 79, 0, 0, [], [])), (42, (.iload 4, 44, 0, 0, 0, [], [])), (44, (.ifCond .lt 35, 47, 79, 0, 0, [], [])), (47, (.aload_n 0, 48, 0, 0, 0, [], [])), (48, (.iload 5, 50, 0, 0, 0, [], [])), (50, (.invokevirtual 92, 53, 0, 0, 0, [], [])), (53, (.ifCond .ne 20, 56, 73, 0, 0, [], [])), (56, (.aload_n 0, 57, 0, 0, 0, [], [])), (57, (.iload_n 1, 58, 0, 0, 0, [], [])), (58, (.iload_n 2, 59, 0, 0, 0, [], [])), (59, (.iload 4, 61, 0, 0, 0, [], [])), (61, (.iload 5, 63, 0, 0, 0, [], [])), (63, (.invokevirtual 215, 66, 0, 0, 0, [], []))],
  [(66, (.iload_n 3, 67, 0, 0, 0, [], [])), (67, (.if_icmp .ne 6, 70, 73, 0, 0, [], [])), (70, (.iload 5, 72, 0, 0, 0, [], [])), (72, (.ireturn, 73, 0, 0, 0, [], [])), (73, (.iinc 5 1, 76, 0, 1, 0, [], [])), (76, (.goto (-45), 79, 31, 0, 0, [], [])), (79, (.bipush (-3), 81, 0, (-3), 0, [], [])), (81, (.ireturn, 82, 0, 0, 0, [], []))]]
noncomputable abbrev zT_216 : zT := (12, zI_216, 1, 6) -- X12_move
noncomputable def zI_217 : List (List (Nat × zE)) := [[(0, (.aload_n 0, 1, 0, 0, 0, [], [])), (1, (.iload_n 1, 2, 0, 0, 0, [], [])), (2, (.invokevirtual 84, 5, 0, 0, 0, [], [])), (5, (.ifCond .eq 13, 8, 18, 0, 0, [], [])), (8, (.iload_n 2, 9, 0, 0, 0, [], [])), (9, (.i2l, 10, 0, 0, 0, [], [])), (10, (.lconst 0, 11, 0, 0, 0, [], [])), (11, (.lconst 1, 12, 0, 0, 1, [], [])), (12, (.invokestatic 67, 15, 0, 0, 0, [], [])), (15, (.ifCond .ne 5, 18, 20, 0, 0, [], [])), (18, (.iconst (-1), 19, 0, (-1), 0, [], [])), (19, (.ireturn, 20, 0, 0, 0, [], [])), (20, (.aload_n 0, 21, 0, 0, 0, [], [])), (21, (.getfield 7, 24, 0, 0, 0, [], [])), (24, (.iconst 3, 25, 0, 3, 0, [], [])), (25, (.iaload, 26, 4, 0, 0, [], [])), (26, (.bipush 6, 28, 0, 6, 0, [], [])), (28, (.if_icmp .ne 6, 31, 34, 0, 0, [], [])), (31, (.bipush (-2), 33, 0, (-2), 0, [], []))],
  [(33, (.ireturn, 34, 0, 0, 0, [], [])), (34, (.aload_n 0, 35, 0, 0, 0, [], [])), (35, (.getfield 7, 38, 0, 0, 0, [], [])), (38, (.bipush 76, 40, 0, 76, 0, [], [])), (40, (.iconst 2, 41, 0, 2, 0, [], [])), (41, (.aload_n 0, 42, 0, 0, 0, [], [])), (42, (.getfield 7, 45, 0, 0, 0, [], [])), (45, (.iconst 3, 46, 0, 3, 0, [], [])), (46, (.iaload, 47, 4, 0, 0, [], [])), (47, (.imul, 48, 0, 0, 0, [], [])), (48, (.iadd, 49, 0, 0, 0, [], [])), (49, (.iload_n 1, 50, 0, 0, 0, [], [])), (50, (.iastore, 51, 0, 0, 0, [], [])), (51, (.aload_n 0, 52, 0, 0, 0, [], [])), (52, (.getfield 7, 55, 0, 0, 0, [], [])), (55, (.bipush 76, 57, 0, 76, 0, [], [])), (57, (.iconst 2, 58, 0, 2, 0, [], [])), (58, (.aload_n 0, 59, 0, 0, 0, [], [])), (59, (.getfield 7, 62, 0, 0, 0, [], [])), (62, (.iconst 3, 63, 0, 3, 0, [], [])), (63, (.iaload, 64, 4, 0, 0, [], []))],
  [(64, (.imul, 65, 0, 0, 0, [], [])), (65, (.iadd, 66, 0, 0, 0, [], [])), (66, (.iconst 1, 67, 0, 1, 0, [], [])), (67, (.iadd, 68, 0, 0, 0, [], [])), (68, (.iload_n 2, 69, 0, 0, 0, [], [])), (69, (.iastore, 70, 0, 0, 0, [], [])), (70, (.aload_n 0, 71, 0, 0, 0, [], [])), (71, (.getfield 7, 74, 0, 0, 0, [], [])), (74, (.iconst 3, 75, 0, 3, 0, [], [])), (75, (.dup2, 76, 0, 0, 0, [], [])), (76, (.iaload, 77, 4, 0, 0, [], [])), (77, (.iconst 1, 78, 0, 1, 0, [], [])), (78, (.iadd, 79, 0, 0, 0, [], [])), (79, (.iastore, 80, 4, 0, 0, [], [])), (80, (.aload_n 0, 81, 0, 0, 0, [], [])), (81, (.getfield 7, 84, 0, 0, 0, [], [])), (84, (.iconst 3, 85, 0, 3, 0, [], [])), (85, (.iaload, 86, 4, 0, 0, [], [])), (86, (.iconst 1, 87, 0, 1, 0, [], [])), (87, (.isub, 88, 0, 0, 0, [], [])), (88, (.ireturn, 89, 0, 0, 0, [], []))]]
noncomputable abbrev zT_217 : zT := (12, zI_217, 1, 3) -- X12_report
noncomputable def zI_218 : List (List (Nat × zE)) := [[(0, (.aload_n 0, 1, 0, 0, 0, [], [])), (1, (.getfield 7, 4, 0, 0, 0, [], [])), (4, (.iconst 3, 5, 0, 3, 0, [], [])), (5, (.iaload, 6, 4, 0, 0, [], [])), (6, (.istore_n 1, 7, 0, 0, 0, [], [])), (7, (.aload_n 0, 8, 0, 0, 0, [], [])), (8, (.getfield 7, 11, 0, 0, 0, [], [])), (11, (.iconst 3, 12, 0, 3, 0, [], [])), (12, (.iconst 0, 13, 0, 0, 0, [], [])), (13, (.iastore, 14, 4, 0, 0, [], [])), (14, (.iload_n 1, 15, 0, 0, 0, [], [])), (15, (.ireturn, 16, 0, 0, 0, [], []))]]
noncomputable abbrev zT_218 : zT := (12, zI_218, 1, 2) -- X12_forget
noncomputable def zI_219 : List (List (Nat × zE)) := [[(0, (.aload_n 0, 1, 0, 0, 0, [], [])), (1, (.invokevirtual 125, 4, 0, 0, 0, [], [])), (4, (.aload_n 0, 5, 0, 0, 0, [], [])), (5, (.iload_n 1, 6, 0, 0, 0, [], [])), (6, (.iload_n 2, 7, 0, 0, 0, [], [])), (7, (.invokevirtual 121, 10, 0, 0, 0, [], [])), (10, (.iconst 0, 11, 0, 0, 0, [], [])), (11, (.istore_n 3, 12, 0, 0, 0, [], [])), (12, (.iconst 0, 13, 0, 0, 0, [], [])), (13, (.istore 4, 15, 0, 0, 0, [], [])), (15, (.iload 4, 17, 0, 0, 0, [], [true, false, false, true, true])), (17, (.aload_n 0, 18, 0, 0, 0, [], [])), (18, (.getfield 7, 21, 0, 0, 0, [], [])), (21, (.iconst 0, 22, 0, 0, 0, [], [])), (22, (.iaload, 23, 1, 0, 0, [], [])), (23, (.if_icmp .ge 28, 26, 51, 0, 0, [], [])), (26, (.iload_n 3, 27, 0, 0, 0, [], [])), (27, (.ifCond .ne 12, 30, 39, 0, 0, [], [])), (30, (.aload_n 0, 31, 0, 0, 0, [], [])), (31, (.iload 4, 33, 0, 0, 0, [], []))],
  [(33, (.invokevirtual 128, 36, 0, 0, 0, [], [])), (36, (.ifCond .eq 7, 39, 43, 0, 0, [], [])), (39, (.iconst 1, 40, 0, 1, 0, [], [])), (40, (.goto 4, 43, 44, 0, 0, [], [])), (43, (.iconst 0, 44, 0, 0, 0, [], [])), (44, (.istore_n 3, 45, 0, 0, 0, [], [])), (45, (.iinc 4 1, 48, 0, 1, 0, [], [])), (48, (.goto (-33), 51, 15, 0, 0, [], [])), (51, (.iload_n 3, 52, 0, 0, 0, [], [])), (52, (.ireturn, 53, 0, 0, 0, [], []))]]
noncomputable abbrev zT_219 : zT := (12, zI_219, 3, 5) -- X12_isCracked
noncomputable def zI_220 : List (List (Nat × zE)) := [[(0, (.aload_n 0, 1, 0, 0, 0, [], [])), (1, (.invokevirtual 135, 4, 0, 0, 0, [], [])), (4, (.aload_n 0, 5, 0, 0, 0, [], [])), (5, (.iconst 0, 6, 0, 0, 0, [], [])), (6, (.putfield 227, 9, 0, 0, 0, [], [])), (9, (.iconst 1, 10, 0, 1, 0, [], [])), (10, (.istore_n 2, 11, 0, 0, 0, [], [])), (11, (.iload_n 2, 12, 0, 0, 0, [], [true, true, true, false, false, false])), (12, (.sipush 201, 15, 0, 201, 0, [], [])), (15, (.if_icmp .ge 141, 18, 156, 0, 0, [], [])), (18, (.iconst 1, 19, 0, 1, 0, [], [])), (19, (.istore_n 3, 20, 0, 0, 0, [], [])), (20, (.iconst 0, 21, 0, 0, 0, [], [])), (21, (.istore 4, 23, 0, 0, 0, [], [])), (23, (.iload 4, 25, 0, 0, 0, [], [true, true, true, true, true, false])), (25, (.aload_n 0, 26, 0, 0, 0, [], [])), (26, (.getfield 7, 29, 0, 0, 0, [], [])), (29, (.iconst 3, 30, 0, 3, 0, [], [])), (30, (.iaload, 31, 4, 0, 0, [], [])), (31, (.if_icmp .ge 81, 34, 112, 0, 0, [], []))],
  [(34, (.iload_n 3, 35, 0, 0, 0, [], [])), (35, (.ifCond .eq 77, 38, 112, 0, 0, [], [])), (38, (.aload_n 0, 39, 0, 0, 0, [], [])), (39, (.getfield 7, 42, 0, 0, 0, [], [])), (42, (.bipush 76, 44, 0, 76, 0, [], [])), (44, (.iconst 2, 45, 0, 2, 0, [], [])), (45, (.iload 4, 47, 0, 0, 0, [], [])), (47, (.imul, 48, 0, 0, 0, [], [])), (48, (.iadd, 49, 0, 0, 0, [], [])), (49, (.iaload, 50, 0, 0, 0, [], [])), (50, (.istore 5, 52, 0, 0, 0, [], [])), (52, (.iload 4, 54, 0, 0, 0, [], [])), (54, (.iload_n 1, 55, 0, 0, 0, [], [])), (55, (.if_icmp .eq 45, 58, 100, 0, 0, [], [])), (58, (.aload_n 0, 59, 0, 0, 0, [], [])), (59, (.iload 5, 61, 0, 0, 0, [], [])), (61, (.invokevirtual 92, 64, 0, 0, 0, [], []))],
  [(64, (.ifCond .ne 40, 67, 104, 0, 0, [], [])), (67, (.aload_n 0, 68, 0, 0, 0, [], [])), (68, (.iload 5, 70, 0, 0, 0, [], [])), (70, (.iload_n 2, 71, 0, 0, 0, [], [])), (71, (.invokevirtual 230, 74, 0, 0, 0, [], [])), (74, (.aload_n 0, 75, 0, 0, 0, [], [])), (75, (.getfield 7, 78, 0, 0, 0, [], [])), (78, (.bipush 76, 80, 0, 76, 0, [], [])), (80, (.iconst 2, 81, 0, 2, 0, [], [])), (81, (.iload 4, 83, 0, 0, 0, [], [])), (83, (.imul, 84, 0, 0, 0, [], [])), (84, (.iadd, 85, 0, 0, 0, [], [])), (85, (.iconst 1, 86, 0, 1, 0, [], [])), (86, (.iadd, 87, 0, 0, 0, [], [])), (87, (.iaload, 88, 0, 0, 0, [], [])), (88, (.iconst 1, 89, 0, 1, 0, [], [])), (89, (.if_icmp .ne 7, 92, 96, 0, 0, [], [])), (92, (.iconst 1, 93, 0, 1, 0, [], [])), (93, (.goto 4, 96, 97, 0, 0, [], []))],
  [(96, (.iconst 0, 97, 0, 0, 0, [], [])), (97, (.if_icmp .ne 7, 100, 104, 0, 0, [], [])), (100, (.iconst 1, 101, 0, 1, 0, [], [])), (101, (.goto 4, 104, 105, 0, 0, [], [])), (104, (.iconst 0, 105, 0, 0, 0, [], [])), (105, (.istore_n 3, 106, 0, 0, 0, [], [])), (106, (.iinc 4 1, 109, 0, 1, 0, [], [])), (109, (.goto (-86), 112, 23, 0, 0, [], [])), (112, (.iload_n 3, 113, 0, 0, 0, [], [true, true, true, true, false, false])), (113, (.ifCond .eq 37, 116, 150, 0, 0, [], [])), (116, (.aload_n 0, 117, 0, 0, 0, [], [])), (117, (.aload_n 0, 118, 0, 0, 0, [], [])), (118, (.getfield 227, 121, 0, 0, 0, [], [])), (121, (.ifCond .ne 7, 124, 128, 0, 0, [], [])), (124, (.iload_n 2, 125, 0, 0, 0, [], [])), (125, (.goto 7, 128, 132, 0, 0, [], []))],
  [(128, (.aload_n 0, 129, 0, 0, 0, [], [])), (129, (.getfield 233, 132, 0, 0, 0, [], [])), (132, (.putfield 233, 135, 0, 0, 0, [], [])), (135, (.aload_n 0, 136, 0, 0, 0, [], [])), (136, (.iload_n 2, 137, 0, 0, 0, [], [])), (137, (.putfield 236, 140, 0, 0, 0, [], [])), (140, (.aload_n 0, 141, 0, 0, 0, [], [])), (141, (.dup, 142, 0, 0, 0, [], [])), (142, (.getfield 227, 145, 0, 0, 0, [], [])), (145, (.iconst 1, 146, 0, 1, 0, [], [])), (146, (.iadd, 147, 0, 0, 0, [], [])), (147, (.putfield 227, 150, 0, 0, 0, [], [])), (150, (.iinc 2 1, 153, 0, 1, 0, [], [])), (153, (.goto (-142), 156, 11, 0, 0, [], [])), (156, (.return_, 157, 0, 0, 0, [], []))]]
noncomputable abbrev zT_220 : zT := (12, zI_220, 0, 6) -- X12_findFits
noncomputable def zI_221 : List (List (Nat × zE)) := [[(0, (.iload_n 1, 1, 0, 0, 0, [], [])), (1, (.i2l, 2, 0, 0, 0, [], [])), (2, (.lconst 0, 3, 0, 0, 0, [], [])), (3, (.ldc2_w 151, 6, 0, 0, 2, [], [])), (6, (.invokestatic 67, 9, 0, 0, 0, [], [])), (9, (.ifCond .ne 5, 12, 14, 0, 0, [], [])), (12, (.iconst (-1), 13, 0, (-1), 0, [], [])), (13, (.ireturn, 14, 0, 0, 0, [], [])), (14, (.aload_n 0, 15, 0, 0, 0, [], [])), (15, (.iconst (-1), 16, 0, (-1), 0, [], [])), (16, (.invokevirtual 239, 19, 0, 0, 0, [], [])), (19, (.iload_n 1, 20, 0, 0, 0, [], [])), (20, (.ifCond .ne 10, 23, 30, 0, 0, [], [])), (23, (.aload_n 0, 24, 0, 0, 0, [], [])), (24, (.getfield 227, 27, 0, 0, 0, [], [])), (27, (.goto 31, 30, 58, 0, 0, [], [])), (30, (.aload_n 0, 31, 0, 0, 0, [], [])), (31, (.getfield 227, 34, 0, 0, 0, [], []))],
  [(34, (.ifCond .ne 8, 37, 42, 0, 0, [], [])), (37, (.bipush (-3), 39, 0, (-3), 0, [], [])), (39, (.goto 19, 42, 58, 0, 0, [], [])), (42, (.iload_n 1, 43, 0, 0, 0, [], [])), (43, (.iconst 1, 44, 0, 1, 0, [], [])), (44, (.if_icmp .ne 10, 47, 54, 0, 0, [], [])), (47, (.aload_n 0, 48, 0, 0, 0, [], [])), (48, (.getfield 233, 51, 0, 0, 0, [], [])), (51, (.goto 7, 54, 58, 0, 0, [], [])), (54, (.aload_n 0, 55, 0, 0, 0, [], [])), (55, (.getfield 236, 58, 0, 0, 0, [], [])), (58, (.ireturn, 59, 0, 0, 0, [], []))]]
noncomputable abbrev zT_221 : zT := (12, zI_221, 1, 2) -- X12_span
noncomputable def zI_222 : List (List (Nat × zE)) := [[(0, (.aload_n 0, 1, 0, 0, 0, [], [])), (1, (.iconst (-1), 2, 0, (-1), 0, [], [])), (2, (.invokevirtual 239, 5, 0, 0, 0, [], [])), (5, (.aload_n 0, 6, 0, 0, 0, [], [])), (6, (.getfield 227, 9, 0, 0, 0, [], [])), (9, (.ifCond .ne 7, 12, 16, 0, 0, [], [])), (12, (.iconst 1, 13, 0, 1, 0, [], [])), (13, (.goto 4, 16, 17, 0, 0, [], [])), (16, (.iconst 0, 17, 0, 0, 0, [], [])), (17, (.istore_n 1, 18, 0, 0, 0, [], [])), (18, (.iconst 0, 19, 0, 0, 0, [], [])), (19, (.istore_n 2, 20, 0, 0, 0, [], [])), (20, (.iload_n 2, 21, 0, 0, 0, [], [true, true, true])), (21, (.aload_n 0, 22, 0, 0, 0, [], [])), (22, (.getfield 7, 25, 0, 0, 0, [], [])), (25, (.iconst 3, 26, 0, 3, 0, [], [])), (26, (.iaload, 27, 4, 0, 0, [], [])), (27, (.if_icmp .ge 27, 30, 54, 0, 0, [], [])), (30, (.iload_n 1, 31, 0, 0, 0, [], [])), (31, (.ifCond .eq 23, 34, 54, 0, 0, [], []))],
  [(34, (.aload_n 0, 35, 0, 0, 0, [], [])), (35, (.iload_n 2, 36, 0, 0, 0, [], [])), (36, (.invokevirtual 239, 39, 0, 0, 0, [], [])), (39, (.aload_n 0, 40, 0, 0, 0, [], [])), (40, (.getfield 227, 43, 0, 0, 0, [], [])), (43, (.ifCond .le 5, 46, 48, 0, 0, [], [])), (46, (.iload_n 2, 47, 0, 0, 0, [], [])), (47, (.ireturn, 48, 0, 0, 0, [], [])), (48, (.iinc 2 1, 51, 0, 1, 0, [], [])), (51, (.goto (-31), 54, 20, 0, 0, [], [])), (54, (.bipush (-3), 56, 0, (-3), 0, [], [])), (56, (.ireturn, 57, 0, 0, 0, [], []))]]
noncomputable abbrev zT_222 : zT := (12, zI_222, 1, 3) -- X12_liar
noncomputable def zI_223 : List (List (Nat × zE)) := [[(0, (.aload_n 0, 1, 0, 0, 0, [], [])), (1, (.getfield 7, 4, 0, 0, 0, [], [])), (4, (.bipush 6, 6, 0, 6, 0, [], [])), (6, (.iaload, 7, 7, 0, 0, [], [])), (7, (.istore_n 2, 8, 0, 0, 0, [], [])), (8, (.aload_n 0, 9, 0, 0, 0, [], [])), (9, (.getfield 7, 12, 0, 0, 0, [], [])), (12, (.bipush 6, 14, 0, 6, 0, [], [])), (14, (.iload_n 1, 15, 0, 0, 0, [], [])), (15, (.iastore, 16, 7, 0, 0, [], [])), (16, (.iload_n 2, 17, 0, 0, 0, [], [])), (17, (.ireturn, 18, 0, 0, 0, [], []))]]
noncomputable abbrev zT_223 : zT := (12, zI_223, 1, 3) -- X12_seed
noncomputable def zI_224 : List (List (Nat × zE)) := [[(0, (.aload_n 0, 1, 0, 0, 0, [], [])), (1, (.getfield 7, 4, 0, 0, 0, [], [])), (4, (.bipush 6, 6, 0, 6, 0, [], [])), (6, (.aload_n 0, 7, 0, 0, 0, [], [])), (7, (.getfield 7, 10, 0, 0, 0, [], [])), (10, (.bipush 6, 12, 0, 6, 0, [], [])), (12, (.iaload, 13, 7, 0, 0, [], [])), (13, (.ldc 243, 15, 0, 1103515245, 0, [], [])), (15, (.imul, 16, 0, 0, 0, [], [])), (16, (.sipush 12345, 19, 0, 12345, 0, [], [])), (19, (.iadd, 20, 0, 0, 0, [], [])), (20, (.iastore, 21, 0, 0, 0, [], [])), (21, (.aload_n 0, 22, 0, 0, 0, [], [])), (22, (.getfield 7, 25, 0, 0, 0, [], [])), (25, (.iconst 5, 26, 0, 5, 0, [], [])), (26, (.aload_n 0, 27, 0, 0, 0, [], [])), (27, (.getfield 7, 30, 0, 0, 0, [], [])), (30, (.bipush 6, 32, 0, 6, 0, [], []))],
  [(32, (.iaload, 33, 7, 0, 0, [], [])), (33, (.bipush 16, 35, 0, 16, 0, [], [])), (35, (.iushr, 36, 0, 0, 0, [], [])), (36, (.bipush 10, 38, 0, 10, 0, [], [])), (38, (.irem, 39, 0, 0, 0, [], [])), (39, (.iastore, 40, 6, 0, 0, [], [])), (40, (.aload_n 0, 41, 0, 0, 0, [], [])), (41, (.getfield 7, 44, 0, 0, 0, [], [])), (44, (.iconst 5, 45, 0, 5, 0, [], [])), (45, (.iaload, 46, 6, 0, 0, [], [])), (46, (.ireturn, 47, 0, 0, 0, [], []))]]
noncomputable abbrev zT_224 : zT := (12, zI_224, 1, 1) -- X12_draw
noncomputable def zI_225 : List (List (Nat × zE)) := [[(0, (.iload_n 1, 1, 0, 0, 0, [], [])), (1, (.i2l, 2, 0, 0, 0, [], [])), (2, (.lconst 1, 3, 0, 0, 1, [], [])), (3, (.ldc2_w 244, 6, 0, 0, 60, [], [])), (6, (.invokestatic 67, 9, 0, 0, 0, [], [])), (9, (.ifCond .ne 5, 12, 14, 0, 0, [], [])), (12, (.iconst (-1), 13, 0, (-1), 0, [], [])), (13, (.ireturn, 14, 0, 0, 0, [], [])), (14, (.aload_n 0, 15, 0, 0, 0, [], [])), (15, (.getfield 7, 18, 0, 0, 0, [], [])), (18, (.bipush 6, 20, 0, 6, 0, [], [])), (20, (.iaload, 21, 7, 0, 0, [], [])), (21, (.istore_n 2, 22, 0, 0, 0, [], [])), (22, (.aload_n 0, 23, 0, 0, 0, [], [])), (23, (.getfield 7, 26, 0, 0, 0, [], [])), (26, (.iconst 5, 27, 0, 5, 0, [], [])), (27, (.iaload, 28, 6, 0, 0, [], [])), (28, (.istore_n 3, 29, 0, 0, 0, [], [])), (29, (.iconst 0, 30, 0, 0, 0, [], [])), (30, (.istore 4, 32, 0, 0, 0, [], []))],
  [(32, (.iconst 0, 33, 0, 0, 0, [], [])), (33, (.istore 5, 35, 0, 0, 0, [], [])), (35, (.iload 5, 37, 0, 0, 0, [], [true, true, true, true, true, true])), (37, (.iload_n 1, 38, 0, 0, 0, [], [])), (38, (.if_icmp .ge 40, 41, 78, 0, 0, [], [])), (41, (.aload_n 0, 42, 0, 0, 0, [], [])), (42, (.getfield 7, 45, 0, 0, 0, [], [])), (45, (.iconst 5, 46, 0, 5, 0, [], [])), (46, (.aload_n 0, 47, 0, 0, 0, [], [])), (47, (.invokevirtual 246, 50, 0, 0, 0, [], [])), (50, (.iastore, 51, 6, 0, 0, [], [])), (51, (.aload_n 0, 52, 0, 0, 0, [], [])), (52, (.invokevirtual 135, 55, 0, 0, 0, [], [])), (55, (.iload 4, 57, 0, 0, 0, [], [])), (57, (.aload_n 0, 58, 0, 0, 0, [], [])), (58, (.invokevirtual 180, 61, 0, 0, 0, [], [])), (61, (.ifCond .eq 7, 64, 68, 0, 0, [], []))],
  [(64, (.iconst 0, 65, 0, 0, 0, [], [])), (65, (.goto 4, 68, 69, 0, 0, [], [])), (68, (.iconst 1, 69, 0, 1, 0, [], [])), (69, (.iadd, 70, 0, 0, 0, [], [])), (70, (.istore 4, 72, 0, 0, 0, [], [])), (72, (.iinc 5 1, 75, 0, 1, 0, [], [])), (75, (.goto (-40), 78, 35, 0, 0, [], [])), (78, (.aload_n 0, 79, 0, 0, 0, [], [])), (79, (.getfield 7, 82, 0, 0, 0, [], [])), (82, (.bipush 6, 84, 0, 6, 0, [], [])), (84, (.iload_n 2, 85, 0, 0, 0, [], [])), (85, (.iastore, 86, 7, 0, 0, [], [])), (86, (.aload_n 0, 87, 0, 0, 0, [], [])), (87, (.getfield 7, 90, 0, 0, 0, [], [])), (90, (.iconst 5, 91, 0, 5, 0, [], [])), (91, (.iload_n 3, 92, 0, 0, 0, [], [])), (92, (.iastore, 93, 6, 0, 0, [], [])), (93, (.iload 4, 95, 0, 0, 0, [], [])), (95, (.ireturn, 96, 0, 0, 0, [], []))]]
noncomputable abbrev zT_225 : zT := (12, zI_225, 1, 6) -- X12_often
noncomputable def zI_226 : List (List (Nat × zE)) := [[(0, (.aload_n 0, 1, 0, 0, 0, [], [])), (1, (.iload_n 1, 2, 0, 0, 0, [], [])), (2, (.invokevirtual 84, 5, 0, 0, 0, [], [])), (5, (.ifCond .ne 5, 8, 10, 0, 0, [], [])), (8, (.iconst (-1), 9, 0, (-1), 0, [], [])), (9, (.ireturn, 10, 0, 0, 0, [], [])), (10, (.aload_n 0, 11, 0, 0, 0, [], [])), (11, (.invokevirtual 140, 14, 0, 0, 0, [], [])), (14, (.aload_n 0, 15, 0, 0, 0, [], [])), (15, (.iconst 0, 16, 0, 0, 0, [], [])), (16, (.putfield 249, 19, 0, 0, 0, [], [])), (19, (.iload_n 1, 20, 0, 0, 0, [], [])), (20, (.istore_n 2, 21, 0, 0, 0, [], [])), (21, (.iload_n 2, 22, 0, 0, 0, [], [true, false, true])), (22, (.ifCond .lt 72, 25, 94, 0, 0, [], [])), (25, (.aload_n 0, 26, 0, 0, 0, [], [])), (26, (.getfield 40, 29, 0, 0, 0, [], [])), (29, (.iconst 3, 30, 0, 3, 0, [], [])), (30, (.aload_n 0, 31, 0, 0, 0, [], [])), (31, (.getfield 249, 34, 0, 0, 0, [], []))],
  [(34, (.imul, 35, 0, 0, 0, [], [])), (35, (.iload_n 2, 36, 0, 0, 0, [], [])), (36, (.iastore, 37, 0, 0, 0, [], [])), (37, (.aload_n 0, 38, 0, 0, 0, [], [])), (38, (.getfield 40, 41, 0, 0, 0, [], [])), (41, (.iconst 3, 42, 0, 3, 0, [], [])), (42, (.aload_n 0, 43, 0, 0, 0, [], [])), (43, (.getfield 249, 46, 0, 0, 0, [], [])), (46, (.imul, 47, 0, 0, 0, [], [])), (47, (.iconst 1, 48, 0, 1, 0, [], [])), (48, (.iadd, 49, 0, 0, 0, [], [])), (49, (.aload_n 0, 50, 0, 0, 0, [], [])), (50, (.getfield 25, 53, 0, 0, 0, [], [])), (53, (.iload_n 2, 54, 0, 0, 0, [], [])), (54, (.iaload, 55, 0, 0, 0, [], [])), (55, (.iastore, 56, 0, 0, 0, [], [])), (56, (.aload_n 0, 57, 0, 0, 0, [], [])), (57, (.getfield 40, 60, 0, 0, 0, [], [])), (60, (.iconst 3, 61, 0, 3, 0, [], [])), (61, (.aload_n 0, 62, 0, 0, 0, [], [])), (62, (.getfield 249, 65, 0, 0, 0, [], []))],
  [(65, (.imul, 66, 0, 0, 0, [], [])), (66, (.iconst 2, 67, 0, 2, 0, [], [])), (67, (.iadd, 68, 0, 0, 0, [], [])), (68, (.aload_n 0, 69, 0, 0, 0, [], [])), (69, (.getfield 22, 72, 0, 0, 0, [], [])), (72, (.iload_n 2, 73, 0, 0, 0, [], [])), (73, (.iaload, 74, 0, 0, 0, [], [])), (74, (.iastore, 75, 0, 0, 0, [], [])), (75, (.aload_n 0, 76, 0, 0, 0, [], [])), (76, (.dup, 77, 0, 0, 0, [], [])), (77, (.getfield 249, 80, 0, 0, 0, [], [])), (80, (.iconst 1, 81, 0, 1, 0, [], [])), (81, (.iadd, 82, 0, 0, 0, [], [])), (82, (.putfield 249, 85, 0, 0, 0, [], [])), (85, (.aload_n 0, 86, 0, 0, 0, [], [])), (86, (.iload_n 2, 87, 0, 0, 0, [], [])), (87, (.invokevirtual 112, 90, 0, 0, 0, [], [])), (90, (.istore_n 2, 91, 0, 0, 0, [], [])), (91, (.goto (-70), 94, 21, 0, 0, [], [])), (94, (.aload_n 0, 95, 0, 0, 0, [], [])), (95, (.getfield 249, 98, 0, 0, 0, [], []))],
  [(98, (.ireturn, 99, 0, 0, 0, [], []))]]
noncomputable abbrev zT_226 : zT := (12, zI_226, 1, 3) -- X12_prove
noncomputable def zI_227 : List (List (Nat × zE)) := [[(0, (.iload_n 1, 1, 0, 0, 0, [], [])), (1, (.i2l, 2, 0, 0, 0, [], [])), (2, (.lconst 0, 3, 0, 0, 0, [], [])), (3, (.aload_n 0, 4, 0, 0, 0, [], [])), (4, (.getfield 249, 7, 0, 0, 0, [], [])), (7, (.iconst 1, 8, 0, 1, 0, [], [])), (8, (.isub, 9, 0, 0, 0, [], [])), (9, (.i2l, 10, 0, 0, 0, [], [])), (10, (.invokestatic 67, 13, 0, 0, 0, [], [])), (13, (.ifCond .eq 19, 16, 32, 0, 0, [], [])), (16, (.iload_n 2, 17, 0, 0, 0, [], [])), (17, (.i2l, 18, 0, 0, 0, [], [])), (18, (.lconst 0, 19, 0, 0, 0, [], [])), (19, (.ldc2_w 151, 22, 0, 0, 2, [], [])), (22, (.invokestatic 67, 25, 0, 0, 0, [], [])), (25, (.ifCond .eq 7, 28, 32, 0, 0, [], [])), (28, (.iconst 1, 29, 0, 1, 0, [], [])), (29, (.goto 4, 32, 33, 0, 0, [], []))],
  [(32, (.iconst 0, 33, 0, 0, 0, [], [])), (33, (.ireturn, 34, 0, 0, 0, [], []))]]
noncomputable abbrev zT_227 : zT := (12, zI_227, 3, 3) -- X12_isRow
noncomputable def zI_228 : List (List (Nat × zE)) := [[(0, (.aload_n 0, 1, 0, 0, 0, [], [])), (1, (.iload_n 1, 2, 0, 0, 0, [], [])), (2, (.iload_n 2, 3, 0, 0, 0, [], [])), (3, (.invokevirtual 252, 6, 0, 0, 0, [], [])), (6, (.ifCond .eq 16, 9, 22, 0, 0, [], [])), (9, (.aload_n 0, 10, 0, 0, 0, [], [])), (10, (.getfield 40, 13, 0, 0, 0, [], [])), (13, (.iconst 3, 14, 0, 3, 0, [], [])), (14, (.iload_n 1, 15, 0, 0, 0, [], [])), (15, (.imul, 16, 0, 0, 0, [], [])), (16, (.iload_n 2, 17, 0, 0, 0, [], [])), (17, (.iadd, 18, 0, 0, 0, [], [])), (18, (.iaload, 19, 0, 0, 0, [], [])), (19, (.goto 5, 22, 24, 0, 0, [], [])), (22, (.bipush (-9), 24, 0, (-9), 0, [], [])), (24, (.ireturn, 25, 0, 0, 0, [], []))]]
noncomputable abbrev zT_228 : zT := (12, zI_228, 1, 3) -- X12_row
noncomputable def zI_229 : List (List (Nat × zE)) := [[(0, (.aload_n 0, 1, 0, 0, 0, [], [])), (1, (.iload_n 1, 2, 0, 0, 0, [], [])), (2, (.iload_n 2, 3, 0, 0, 0, [], [])), (3, (.invokevirtual 252, 6, 0, 0, 0, [], [])), (6, (.ifCond .ne 6, 9, 12, 0, 0, [], [])), (9, (.bipush (-9), 11, 0, (-9), 0, [], [])), (11, (.ireturn, 12, 0, 0, 0, [], [])), (12, (.aload_n 0, 13, 0, 0, 0, [], [])), (13, (.getfield 40, 16, 0, 0, 0, [], [])), (16, (.iconst 3, 17, 0, 3, 0, [], [])), (17, (.iload_n 1, 18, 0, 0, 0, [], [])), (18, (.imul, 19, 0, 0, 0, [], [])), (19, (.iload_n 2, 20, 0, 0, 0, [], [])), (20, (.iadd, 21, 0, 0, 0, [], [])), (21, (.iaload, 22, 0, 0, 0, [], [])), (22, (.istore 4, 24, 0, 0, 0, [], [])), (24, (.aload_n 0, 25, 0, 0, 0, [], [])), (25, (.getfield 40, 28, 0, 0, 0, [], [])), (28, (.iconst 3, 29, 0, 3, 0, [], [])), (29, (.iload_n 1, 30, 0, 0, 0, [], [])), (30, (.imul, 31, 0, 0, 0, [], [])), (31, (.iload_n 2, 32, 0, 0, 0, [], []))],
  [(32, (.iadd, 33, 0, 0, 0, [], [])), (33, (.iload_n 3, 34, 0, 0, 0, [], [])), (34, (.iastore, 35, 0, 0, 0, [], [])), (35, (.iload 4, 37, 0, 0, 0, [], [])), (37, (.ireturn, 38, 0, 0, 0, [], []))]]
noncomputable abbrev zT_229 : zT := (12, zI_229, 1, 5) -- X12_alterRow
noncomputable def zI_230 : List (List (Nat × zE)) := [[(0, (.aload_n 0, 1, 0, 0, 0, [], [])), (1, (.invokevirtual 140, 4, 0, 0, 0, [], [])), (4, (.iconst 0, 5, 0, 0, 0, [], [])), (5, (.istore_n 1, 6, 0, 0, 0, [], [])), (6, (.iload_n 1, 7, 0, 0, 0, [], [true, true, false])), (7, (.aload_n 0, 8, 0, 0, 0, [], [])), (8, (.getfield 249, 11, 0, 0, 0, [], [])), (11, (.if_icmp .ge 108, 14, 119, 0, 0, [], [])), (14, (.aload_n 0, 15, 0, 0, 0, [], [])), (15, (.getfield 40, 18, 0, 0, 0, [], [])), (18, (.iconst 3, 19, 0, 3, 0, [], [])), (19, (.iload_n 1, 20, 0, 0, 0, [], [])), (20, (.imul, 21, 0, 0, 0, [], [])), (21, (.iaload, 22, 0, 0, 0, [], [])), (22, (.istore_n 2, 23, 0, 0, 0, [], [])), (23, (.aload_n 0, 24, 0, 0, 0, [], [])), (24, (.iload_n 2, 25, 0, 0, 0, [], [])), (25, (.invokevirtual 84, 28, 0, 0, 0, [], [])), (28, (.ifCond .eq 81, 31, 109, 0, 0, [], [])), (31, (.iload_n 1, 32, 0, 0, 0, [], []))],
  [(32, (.ifCond .le 21, 35, 53, 0, 0, [], [])), (35, (.iload_n 2, 36, 0, 0, 0, [], [])), (36, (.aload_n 0, 37, 0, 0, 0, [], [])), (37, (.aload_n 0, 38, 0, 0, 0, [], [])), (38, (.getfield 40, 41, 0, 0, 0, [], [])), (41, (.iconst 3, 42, 0, 3, 0, [], [])), (42, (.iload_n 1, 43, 0, 0, 0, [], [])), (43, (.imul, 44, 0, 0, 0, [], [])), (44, (.iconst 3, 45, 0, 3, 0, [], [])), (45, (.isub, 46, 0, 0, 0, [], [])), (46, (.iaload, 47, 0, 0, 0, [], [])), (47, (.invokevirtual 112, 50, 0, 0, 0, [], [])), (50, (.if_icmp .ne 59, 53, 109, 0, 0, [], [])), (53, (.aload_n 0, 54, 0, 0, 0, [], [true, true, true])), (54, (.getfield 40, 57, 0, 0, 0, [], [])), (57, (.iconst 3, 58, 0, 3, 0, [], [])), (58, (.iload_n 1, 59, 0, 0, 0, [], [])), (59, (.imul, 60, 0, 0, 0, [], [])), (60, (.iconst 1, 61, 0, 1, 0, [], [])), (61, (.iadd, 62, 0, 0, 0, [], [])), (62, (.iaload, 63, 0, 0, 0, [], [])), (63, (.aload_n 0, 64, 0, 0, 0, [], []))],
  [(64, (.getfield 25, 67, 0, 0, 0, [], [])), (67, (.iload_n 2, 68, 0, 0, 0, [], [])), (68, (.iaload, 69, 0, 0, 0, [], [])), (69, (.if_icmp .ne 40, 72, 109, 0, 0, [], [])), (72, (.aload_n 0, 73, 0, 0, 0, [], [])), (73, (.getfield 40, 76, 0, 0, 0, [], [])), (76, (.iconst 3, 77, 0, 3, 0, [], [])), (77, (.iload_n 1, 78, 0, 0, 0, [], [])), (78, (.imul, 79, 0, 0, 0, [], [])), (79, (.iconst 2, 80, 0, 2, 0, [], [])), (80, (.iadd, 81, 0, 0, 0, [], [])), (81, (.iaload, 82, 0, 0, 0, [], [])), (82, (.aload_n 0, 83, 0, 0, 0, [], [])), (83, (.getfield 22, 86, 0, 0, 0, [], [])), (86, (.iload_n 2, 87, 0, 0, 0, [], [])), (87, (.iaload, 88, 0, 0, 0, [], [])), (88, (.if_icmp .ne 21, 91, 109, 0, 0, [], [])), (91, (.iload_n 1, 92, 0, 0, 0, [], [])), (92, (.aload_n 0, 93, 0, 0, 0, [], [])), (93, (.getfield 249, 96, 0, 0, 0, [], []))],
  [(96, (.iconst 1, 97, 0, 1, 0, [], [])), (97, (.isub, 98, 0, 0, 0, [], [])), (98, (.if_icmp .ne 15, 101, 113, 0, 0, [], [])), (101, (.aload_n 0, 102, 0, 0, 0, [], [])), (102, (.iload_n 2, 103, 0, 0, 0, [], [])), (103, (.invokevirtual 112, 106, 0, 0, 0, [], [])), (106, (.ifCond .lt 7, 109, 113, 0, 0, [], [])), (109, (.iload_n 1, 110, 0, 0, 0, [], [])), (110, (.iconst 1, 111, 0, 1, 0, [], [])), (111, (.iadd, 112, 0, 0, 0, [], [])), (112, (.ireturn, 113, 0, 0, 0, [], [])), (113, (.iinc 1 1, 116, 0, 1, 0, [], [])), (116, (.goto (-110), 119, 6, 0, 0, [], [])), (119, (.iconst 0, 120, 0, 0, 0, [], [])), (120, (.ireturn, 121, 0, 0, 0, [], []))]]
noncomputable abbrev zT_230 : zT := (12, zI_230, 1, 3) -- X12_judge
noncomputable def zI_231 : List (List (Nat × zE)) := [[(0, (.iload_n 3, 1, 0, 0, 0, [], [])), (1, (.i2l, 2, 0, 0, 0, [], [])), (2, (.lconst 1, 3, 0, 0, 1, [], [])), (3, (.ldc2_w 255, 6, 0, 0, 8, [], [])), (6, (.invokestatic 67, 9, 0, 0, 0, [], [])), (9, (.ifCond .ne 5, 12, 14, 0, 0, [], [])), (12, (.iconst (-1), 13, 0, (-1), 0, [], [])), (13, (.ireturn, 14, 0, 0, 0, [], [])), (14, (.aload_n 0, 15, 0, 0, 0, [], [])), (15, (.getfield 257, 18, 0, 0, 0, [], [])), (18, (.iload_n 3, 19, 0, 0, 0, [], [])), (19, (.iadd, 20, 0, 0, 0, [], [])), (20, (.sipush 200, 23, 0, 200, 0, [], [])), (23, (.if_icmp .le 6, 26, 29, 0, 0, [], [])), (26, (.bipush (-2), 28, 0, (-2), 0, [], [])), (28, (.ireturn, 29, 0, 0, 0, [], [])), (29, (.iconst 0, 30, 0, 0, 0, [], [])), (30, (.istore 4, 32, 0, 0, 0, [], []))],
  [(32, (.iload 4, 34, 0, 0, 0, [], [true, true, false, true, true])), (34, (.iload_n 3, 35, 0, 0, 0, [], [])), (35, (.if_icmp .ge 40, 38, 75, 0, 0, [], [])), (38, (.aload_n 0, 39, 0, 0, 0, [], [])), (39, (.getfield 43, 42, 0, 0, 0, [], [])), (42, (.aload_n 0, 43, 0, 0, 0, [], [])), (43, (.getfield 257, 46, 0, 0, 0, [], [])), (46, (.lload_n 1, 47, 0, 0, 0, [], [])), (47, (.bipush 8, 49, 0, 8, 0, [], [])), (49, (.iload 4, 51, 0, 0, 0, [], [])), (51, (.imul, 52, 0, 0, 0, [], [])), (52, (.lshr, 53, 0, 0, 0, [], [])), (53, (.ldc2_w 260, 56, 0, 0, 255, [], [])), (56, (.land, 57, 0, 0, 0, [], [])), (57, (.l2i, 58, 0, 0, 0, [], [])), (58, (.iastore, 59, 0, 0, 0, [], [])), (59, (.aload_n 0, 60, 0, 0, 0, [], [])), (60, (.dup, 61, 0, 0, 0, [], [])), (61, (.getfield 257, 64, 0, 0, 0, [], []))],
  [(64, (.iconst 1, 65, 0, 1, 0, [], [])), (65, (.iadd, 66, 0, 0, 0, [], [])), (66, (.putfield 257, 69, 0, 0, 0, [], [])), (69, (.iinc 4 1, 72, 0, 1, 0, [], [])), (72, (.goto (-40), 75, 32, 0, 0, [], [])), (75, (.aload_n 0, 76, 0, 0, 0, [], [])), (76, (.getfield 257, 79, 0, 0, 0, [], [])), (79, (.ireturn, 80, 0, 0, 0, [], []))]]
noncomputable abbrev zT_231 : zT := (12, zI_231, 1, 5) -- X12_feed
noncomputable def zI_232 : List (List (Nat × zE)) := [[(0, (.iload_n 1, 1, 0, 0, 0, [], [])), (1, (.aload_n 0, 2, 0, 0, 0, [], [])), (2, (.getfield 257, 5, 0, 0, 0, [], [])), (5, (.if_icmp .ge 12, 8, 17, 0, 0, [], [])), (8, (.aload_n 0, 9, 0, 0, 0, [], [])), (9, (.getfield 43, 12, 0, 0, 0, [], [])), (12, (.iload_n 1, 13, 0, 0, 0, [], [])), (13, (.iaload, 14, 0, 0, 0, [], [])), (14, (.goto 4, 17, 18, 0, 0, [], [])), (17, (.iconst (-1), 18, 0, (-1), 0, [], [])), (18, (.ireturn, 19, 0, 0, 0, [], []))]]
noncomputable abbrev zT_232 : zT := (12, zI_232, 1, 2) -- X12_byteAt
noncomputable def zI_233 : List (List (Nat × zE)) := [[(0, (.iload_n 0, 1, 0, 0, 0, [], [])), (1, (.i2l, 2, 0, 0, 0, [], [])), (2, (.ldc2_w 262, 5, 0, 0, 97, [], [])), (5, (.ldc2_w 264, 8, 0, 0, 122, [], [])), (8, (.invokestatic 67, 11, 0, 0, 0, [], [])), (11, (.ireturn, 12, 0, 0, 0, [], []))]]
noncomputable abbrev zT_233 : zT := (12, zI_233, 3, 1) -- X12_isLetter
noncomputable def zI_234 : List (List (Nat × zE)) := [[(0, (.iload_n 0, 1, 0, 0, 0, [], [])), (1, (.i2l, 2, 0, 0, 0, [], [])), (2, (.ldc2_w 266, 5, 0, 0, 48, [], [])), (5, (.ldc2_w 268, 8, 0, 0, 57, [], [])), (8, (.invokestatic 67, 11, 0, 0, 0, [], [])), (11, (.ireturn, 12, 0, 0, 0, [], []))]]
noncomputable abbrev zT_234 : zT := (12, zI_234, 3, 1) -- X12_isDigit
noncomputable def zI_235 : List (List (Nat × zE)) := [[(0, (.aload_n 0, 1, 0, 0, 0, [], [])), (1, (.aload_n 0, 2, 0, 0, 0, [], [])), (2, (.getfield 270, 5, 0, 0, 0, [], [])), (5, (.putfield 273, 8, 0, 0, 0, [], [])), (8, (.aload_n 0, 9, 0, 0, 0, [], [true, false, false])), (9, (.aload_n 0, 10, 0, 0, 0, [], [])), (10, (.getfield 273, 13, 0, 0, 0, [], [])), (13, (.invokevirtual 276, 16, 0, 0, 0, [], [])), (16, (.bipush 32, 18, 0, 32, 0, [], [])), (18, (.if_icmp .ne 16, 21, 34, 0, 0, [], [])), (21, (.aload_n 0, 22, 0, 0, 0, [], [])), (22, (.dup, 23, 0, 0, 0, [], [])), (23, (.getfield 273, 26, 0, 0, 0, [], [])), (26, (.iconst 1, 27, 0, 1, 0, [], [])), (27, (.iadd, 28, 0, 0, 0, [], [])), (28, (.putfield 273, 31, 0, 0, 0, [], [])), (31, (.goto (-23), 34, 8, 0, 0, [], []))],
  [(34, (.aload_n 0, 35, 0, 0, 0, [], [])), (35, (.aload_n 0, 36, 0, 0, 0, [], [])), (36, (.getfield 273, 39, 0, 0, 0, [], [])), (39, (.invokevirtual 276, 42, 0, 0, 0, [], [])), (42, (.invokestatic 279, 45, 0, 0, 0, [], [])), (45, (.istore_n 1, 46, 0, 0, 0, [], [])), (46, (.aload_n 0, 47, 0, 0, 0, [], [])), (47, (.aload_n 0, 48, 0, 0, 0, [], [])), (48, (.getfield 273, 51, 0, 0, 0, [], [])), (51, (.invokevirtual 276, 54, 0, 0, 0, [], [])), (54, (.invokestatic 282, 57, 0, 0, 0, [], [])), (57, (.istore_n 2, 58, 0, 0, 0, [], [])), (58, (.aload_n 0, 59, 0, 0, 0, [], [])), (59, (.aload_n 0, 60, 0, 0, 0, [], [])), (60, (.getfield 273, 63, 0, 0, 0, [], [])), (63, (.aload_n 0, 64, 0, 0, 0, [], []))],
  [(64, (.getfield 257, 67, 0, 0, 0, [], [])), (67, (.if_icmp .ge 12, 70, 79, 0, 0, [], [])), (70, (.aload_n 0, 71, 0, 0, 0, [], [])), (71, (.getfield 273, 74, 0, 0, 0, [], [])), (74, (.iconst 1, 75, 0, 1, 0, [], [])), (75, (.iadd, 76, 0, 0, 0, [], [])), (76, (.goto 7, 79, 83, 0, 0, [], [])), (79, (.aload_n 0, 80, 0, 0, 0, [], [])), (80, (.getfield 273, 83, 0, 0, 0, [], [])), (83, (.putfield 270, 86, 0, 0, 0, [], [])), (86, (.iload_n 1, 87, 0, 0, 0, [], [true, true, true])), (87, (.ifCond .eq 17, 90, 104, 0, 0, [], [])), (90, (.aload_n 0, 91, 0, 0, 0, [], [])), (91, (.aload_n 0, 92, 0, 0, 0, [], [])), (92, (.getfield 270, 95, 0, 0, 0, [], [])), (95, (.invokevirtual 276, 98, 0, 0, 0, [], []))],
  [(98, (.invokestatic 279, 101, 0, 0, 0, [], [])), (101, (.ifCond .ne 21, 104, 122, 0, 0, [], [])), (104, (.iload_n 2, 105, 0, 0, 0, [], [true, true, true])), (105, (.ifCond .eq 30, 108, 135, 0, 0, [], [])), (108, (.aload_n 0, 109, 0, 0, 0, [], [])), (109, (.aload_n 0, 110, 0, 0, 0, [], [])), (110, (.getfield 270, 113, 0, 0, 0, [], [])), (113, (.invokevirtual 276, 116, 0, 0, 0, [], [])), (116, (.invokestatic 282, 119, 0, 0, 0, [], [])), (119, (.ifCond .eq 16, 122, 135, 0, 0, [], [])), (122, (.aload_n 0, 123, 0, 0, 0, [], [])), (123, (.dup, 124, 0, 0, 0, [], [])), (124, (.getfield 270, 127, 0, 0, 0, [], [])), (127, (.iconst 1, 128, 0, 1, 0, [], []))],
  [(128, (.iadd, 129, 0, 0, 0, [], [])), (129, (.putfield 270, 132, 0, 0, 0, [], [])), (132, (.goto (-46), 135, 86, 0, 0, [], [])), (135, (.return_, 136, 0, 0, 0, [], []))]]
noncomputable abbrev zT_235 : zT := (12, zI_235, 0, 3) -- X12_token
noncomputable def zI_236 : List (List (Nat × zE)) := [[(0, (.aload_n 0, 1, 0, 0, 0, [], [])), (1, (.aload_n 0, 2, 0, 0, 0, [], [])), (2, (.getfield 285, 5, 0, 0, 0, [], [])), (5, (.ifCond .ne 7, 8, 12, 0, 0, [], [])), (8, (.iload_n 1, 9, 0, 0, 0, [], [])), (9, (.ifCond .ne 7, 12, 16, 0, 0, [], [])), (12, (.iconst 1, 13, 0, 1, 0, [], [])), (13, (.goto 4, 16, 17, 0, 0, [], [])), (16, (.iconst 0, 17, 0, 0, 0, [], [])), (17, (.putfield 285, 20, 0, 0, 0, [], [])), (20, (.aload_n 0, 21, 0, 0, 0, [], [])), (21, (.getfield 285, 24, 0, 0, 0, [], [])), (24, (.ifCond .ne 7, 27, 31, 0, 0, [], [])), (27, (.aload_n 0, 28, 0, 0, 0, [], [])), (28, (.invokevirtual 289, 31, 0, 0, 0, [], [])), (31, (.return_, 32, 0, 0, 0, [], []))]]
noncomputable abbrev zT_236 : zT := (12, zI_236, 0, 2) -- X12_needs
noncomputable def zI_237 : List (List (Nat × zE)) := [[(0, (.lconst 0, 1, 0, 0, 0, [], [])), (1, (.lstore_n 1, 2, 0, 0, 0, [], [])), (2, (.aload_n 0, 3, 0, 0, 0, [], [])), (3, (.getfield 273, 6, 0, 0, 0, [], [])), (6, (.istore_n 3, 7, 0, 0, 0, [], [])), (7, (.iload_n 3, 8, 0, 0, 0, [], [true, true, false, true])), (8, (.aload_n 0, 9, 0, 0, 0, [], [])), (9, (.getfield 270, 12, 0, 0, 0, [], [])), (12, (.if_icmp .ge 38, 15, 50, 0, 0, [], [])), (15, (.lload_n 1, 16, 0, 0, 0, [], [])), (16, (.ldc2_w 292, 19, 0, 0, 36028797018963967, [], [])), (19, (.lcmp, 20, 0, 0, 0, [], [])), (20, (.ifCond .le 7, 23, 27, 0, 0, [], [])), (23, (.lload_n 1, 24, 0, 0, 0, [], [])), (24, (.goto 19, 27, 43, 0, 0, [], [])), (27, (.ldc2_w 294, 30, 0, 0, 32, [], [])), (30, (.lload_n 1, 31, 0, 0, 0, [], [])), (31, (.lmul, 32, 0, 0, 0, [], []))],
  [(32, (.aload_n 0, 33, 0, 0, 0, [], [])), (33, (.getfield 43, 36, 0, 0, 0, [], [])), (36, (.iload_n 3, 37, 0, 0, 0, [], [])), (37, (.iaload, 38, 0, 0, 0, [], [])), (38, (.bipush 96, 40, 0, 96, 0, [], [])), (40, (.isub, 41, 0, 0, 0, [], [])), (41, (.i2l, 42, 0, 0, 0, [], [])), (42, (.ladd, 43, 0, 0, 0, [], [])), (43, (.lstore_n 1, 44, 0, 0, 0, [], [])), (44, (.iinc 3 1, 47, 0, 1, 0, [], [])), (47, (.goto (-40), 50, 7, 0, 0, [], [])), (50, (.aload_n 0, 51, 0, 0, 0, [], [])), (51, (.getfield 285, 54, 0, 0, 0, [], [])), (54, (.ifCond .ne 17, 57, 71, 0, 0, [], [])), (57, (.aload_n 0, 58, 0, 0, 0, [], [])), (58, (.aload_n 0, 59, 0, 0, 0, [], [])), (59, (.getfield 273, 62, 0, 0, 0, [], [])), (62, (.invokevirtual 276, 65, 0, 0, 0, [], []))],
  [(65, (.invokestatic 279, 68, 0, 0, 0, [], [])), (68, (.ifCond .ne 7, 71, 75, 0, 0, [], [])), (71, (.lconst 0, 72, 0, 0, 0, [], [])), (72, (.goto 4, 75, 76, 0, 0, [], [])), (75, (.lload_n 1, 76, 0, 0, 0, [], [])), (76, (.lreturn, 77, 0, 0, 0, [], []))]]
noncomputable abbrev zT_237 : zT := (12, zI_237, 2, 4) -- X12_word
noncomputable def zI_238 : List (List (Nat × zE)) := [[(0, (.aload_n 0, 1, 0, 0, 0, [], [])), (1, (.aload_n 0, 2, 0, 0, 0, [], [])), (2, (.getfield 273, 5, 0, 0, 0, [], [])), (5, (.invokevirtual 276, 8, 0, 0, 0, [], [])), (8, (.invokestatic 282, 11, 0, 0, 0, [], [])), (11, (.ifCond .eq 20, 14, 31, 0, 0, [], [])), (14, (.aload_n 0, 15, 0, 0, 0, [], [])), (15, (.getfield 270, 18, 0, 0, 0, [], [])), (18, (.aload_n 0, 19, 0, 0, 0, [], [])), (19, (.getfield 273, 22, 0, 0, 0, [], [])), (22, (.isub, 23, 0, 0, 0, [], [])), (23, (.iconst 5, 24, 0, 5, 0, [], [])), (24, (.if_icmp .ge 7, 27, 31, 0, 0, [], [])), (27, (.iconst 1, 28, 0, 1, 0, [], [])), (28, (.goto 4, 31, 32, 0, 0, [], [])), (31, (.iconst 0, 32, 0, 0, 0, [], []))],
  [(32, (.istore_n 2, 33, 0, 0, 0, [], [])), (33, (.aload_n 0, 34, 0, 0, 0, [], [])), (34, (.iconst 0, 35, 0, 0, 0, [], [])), (35, (.putfield 296, 38, 0, 0, 0, [], [])), (38, (.aload_n 0, 39, 0, 0, 0, [], [])), (39, (.getfield 273, 42, 0, 0, 0, [], [])), (42, (.istore_n 3, 43, 0, 0, 0, [], [])), (43, (.iload_n 3, 44, 0, 0, 0, [], [true, true, true, true])), (44, (.aload_n 0, 45, 0, 0, 0, [], [])), (45, (.getfield 270, 48, 0, 0, 0, [], [])), (48, (.if_icmp .ge 34, 51, 82, 0, 0, [], [])), (51, (.iload_n 2, 52, 0, 0, 0, [], [])), (52, (.ifCond .eq 30, 55, 82, 0, 0, [], [])), (55, (.aload_n 0, 56, 0, 0, 0, [], [])), (56, (.bipush 10, 58, 0, 10, 0, [], [])), (58, (.aload_n 0, 59, 0, 0, 0, [], [])), (59, (.getfield 296, 62, 0, 0, 0, [], [])), (62, (.imul, 63, 0, 0, 0, [], [])), (63, (.aload_n 0, 64, 0, 0, 0, [], []))],
  [(64, (.getfield 43, 67, 0, 0, 0, [], [])), (67, (.iload_n 3, 68, 0, 0, 0, [], [])), (68, (.iaload, 69, 0, 0, 0, [], [])), (69, (.iadd, 70, 0, 0, 0, [], [])), (70, (.bipush 48, 72, 0, 48, 0, [], [])), (72, (.isub, 73, 0, 0, 0, [], [])), (73, (.putfield 296, 76, 0, 0, 0, [], [])), (76, (.iinc 3 1, 79, 0, 1, 0, [], [])), (79, (.goto (-36), 82, 43, 0, 0, [], [])), (82, (.aload_n 0, 83, 0, 0, 0, [], [])), (83, (.iload_n 2, 84, 0, 0, 0, [], [])), (84, (.ifCond .eq 15, 87, 99, 0, 0, [], [])), (87, (.aload_n 0, 88, 0, 0, 0, [], [])), (88, (.getfield 296, 91, 0, 0, 0, [], [])), (91, (.iload_n 1, 92, 0, 0, 0, [], [])), (92, (.if_icmp .gt 7, 95, 99, 0, 0, [], [])), (95, (.iconst 1, 96, 0, 1, 0, [], []))],
  [(96, (.goto 4, 99, 100, 0, 0, [], [])), (99, (.iconst 0, 100, 0, 0, 0, [], [])), (100, (.invokevirtual 299, 103, 0, 0, 0, [], [])), (103, (.return_, 104, 0, 0, 0, [], []))]]
noncomputable abbrev zT_238 : zT := (12, zI_238, 0, 4) -- X12_number
noncomputable def zI_239 : List (List (Nat × zE)) := [[(0, (.aload_n 0, 1, 0, 0, 0, [], [])), (1, (.invokevirtual 303, 4, 0, 0, 0, [], [])), (4, (.lstore_n 1, 5, 0, 0, 0, [], [])), (5, (.lload_n 1, 6, 0, 0, 0, [], [])), (6, (.ldc2_w 307, 9, 0, 0, 2610408, [], [])), (9, (.lcmp, 10, 0, 0, 0, [], [])), (10, (.ifCond .ne 7, 13, 17, 0, 0, [], [])), (13, (.iconst 0, 14, 0, 0, 0, [], [])), (14, (.goto 64, 17, 78, 0, 0, [], [])), (17, (.lload_n 1, 18, 0, 0, 0, [], [])), (18, (.ldc2_w 309, 21, 0, 0, 7935150, [], [])), (21, (.lcmp, 22, 0, 0, 0, [], [])), (22, (.ifCond .ne 7, 25, 29, 0, 0, [], [])), (25, (.iconst 1, 26, 0, 1, 0, [], [])), (26, (.goto 52, 29, 78, 0, 0, [], [])), (29, (.lload_n 1, 30, 0, 0, 0, [], [])), (30, (.ldc2_w 311, 33, 0, 0, 4697, [], []))],
  [(33, (.lcmp, 34, 0, 0, 0, [], [])), (34, (.ifCond .ne 7, 37, 41, 0, 0, [], [])), (37, (.iconst 2, 38, 0, 2, 0, [], [])), (38, (.goto 40, 41, 78, 0, 0, [], [])), (41, (.lload_n 1, 42, 0, 0, 0, [], [])), (42, (.ldc2_w 313, 45, 0, 0, 15748, [], [])), (45, (.lcmp, 46, 0, 0, 0, [], [])), (46, (.ifCond .ne 7, 49, 53, 0, 0, [], [])), (49, (.iconst 3, 50, 0, 3, 0, [], [])), (50, (.goto 28, 53, 78, 0, 0, [], [])), (53, (.lload_n 1, 54, 0, 0, 0, [], [])), (54, (.ldc2_w 315, 57, 0, 0, 17800118436, [], [])), (57, (.lcmp, 58, 0, 0, 0, [], [])), (58, (.ifCond .ne 7, 61, 65, 0, 0, [], [])), (61, (.iconst 4, 62, 0, 4, 0, [], [])), (62, (.goto 16, 65, 78, 0, 0, [], []))],
  [(65, (.lload_n 1, 66, 0, 0, 0, [], [])), (66, (.ldc2_w 317, 69, 0, 0, 11843827, [], [])), (69, (.lcmp, 70, 0, 0, 0, [], [])), (70, (.ifCond .ne 7, 73, 77, 0, 0, [], [])), (73, (.iconst 5, 74, 0, 5, 0, [], [])), (74, (.goto 4, 77, 78, 0, 0, [], [])), (77, (.iconst (-1), 78, 0, (-1), 0, [], [])), (78, (.ireturn, 79, 0, 0, 0, [], []))]]
noncomputable abbrev zT_239 : zT := (12, zI_239, 1, 3) -- X12_kindHere
noncomputable def zI_240 : List (List (Nat × zE)) := [[(0, (.aload_n 0, 1, 0, 0, 0, [], [])), (1, (.invokevirtual 303, 4, 0, 0, 0, [], [])), (4, (.lstore_n 1, 5, 0, 0, 0, [], [])), (5, (.lload_n 1, 6, 0, 0, 0, [], [])), (6, (.ldc2_w 319, 9, 0, 0, 19504, [], [])), (9, (.lcmp, 10, 0, 0, 0, [], [])), (10, (.ifCond .ne 7, 13, 17, 0, 0, [], [])), (13, (.iconst (-1), 14, 0, (-1), 0, [], [])), (14, (.goto 56, 17, 70, 0, 0, [], [])), (17, (.lload_n 1, 18, 0, 0, 0, [], [])), (18, (.ldc2_w 321, 21, 0, 0, 763332, [], [])), (21, (.lcmp, 22, 0, 0, 0, [], [])), (22, (.ifCond .ne 8, 25, 30, 0, 0, [], [])), (25, (.bipush (-2), 27, 0, (-2), 0, [], [])), (27, (.goto 43, 30, 70, 0, 0, [], [])), (30, (.lload_n 1, 31, 0, 0, 0, [], [])), (31, (.ldc2_w 323, 34, 0, 0, 409031, [], []))],
  [(34, (.lcmp, 35, 0, 0, 0, [], [])), (35, (.ifCond .ne 8, 38, 43, 0, 0, [], [])), (38, (.bipush (-3), 40, 0, (-3), 0, [], [])), (40, (.goto 30, 43, 70, 0, 0, [], [])), (43, (.lload_n 1, 44, 0, 0, 0, [], [])), (44, (.ldc2_w 325, 47, 0, 0, 8892563, [], [])), (47, (.lcmp, 48, 0, 0, 0, [], [])), (48, (.ifCond .ne 8, 51, 56, 0, 0, [], [])), (51, (.bipush (-4), 53, 0, (-4), 0, [], [])), (53, (.goto 17, 56, 70, 0, 0, [], [])), (56, (.lload_n 1, 57, 0, 0, 0, [], [])), (57, (.ldc2_w 327, 60, 0, 0, 492210354, [], [])), (60, (.lcmp, 61, 0, 0, 0, [], [])), (61, (.ifCond .ne 8, 64, 69, 0, 0, [], []))],
  [(64, (.bipush (-5), 66, 0, (-5), 0, [], [])), (66, (.goto 4, 69, 70, 0, 0, [], [])), (69, (.iconst 0, 70, 0, 0, 0, [], [])), (70, (.ireturn, 71, 0, 0, 0, [], []))]]
noncomputable abbrev zT_240 : zT := (12, zI_240, 1, 3) -- X12_factHere
noncomputable def zI_241 : List (List (Nat × zE)) := [[(0, (.aload_n 0, 1, 0, 0, 0, [], [])), (1, (.getfield 285, 4, 0, 0, 0, [], [])), (4, (.ifCond .ne 26, 7, 30, 0, 0, [], [])), (7, (.aload_n 0, 8, 0, 0, 0, [], [])), (8, (.getfield 7, 11, 0, 0, 0, [], [])), (11, (.bipush 120, 13, 0, 120, 0, [], [])), (13, (.aload_n 0, 14, 0, 0, 0, [], [])), (14, (.getfield 329, 17, 0, 0, 0, [], [])), (17, (.iadd, 18, 0, 0, 0, [], [])), (18, (.iload_n 1, 19, 0, 0, 0, [], [])), (19, (.iastore, 20, 0, 0, 0, [], [])), (20, (.aload_n 0, 21, 0, 0, 0, [], [])), (21, (.dup, 22, 0, 0, 0, [], [])), (22, (.getfield 329, 25, 0, 0, 0, [], [])), (25, (.iconst 1, 26, 0, 1, 0, [], [])), (26, (.iadd, 27, 0, 0, 0, [], [])), (27, (.putfield 329, 30, 0, 0, 0, [], [])), (30, (.return_, 31, 0, 0, 0, [], []))]]
noncomputable abbrev zT_241 : zT := (12, zI_241, 0, 2) -- X12_writes
noncomputable def zI_242 : List (List (Nat × zE)) := [[(0, (.aload_n 0, 1, 0, 0, 0, [], [])), (1, (.invokevirtual 332, 4, 0, 0, 0, [], [])), (4, (.istore_n 1, 5, 0, 0, 0, [], [])), (5, (.iload_n 1, 6, 0, 0, 0, [], [])), (6, (.ifCond .ge 16, 9, 22, 0, 0, [], [])), (9, (.aload_n 0, 10, 0, 0, 0, [], [])), (10, (.iconst 1, 11, 0, 1, 0, [], [])), (11, (.invokevirtual 299, 14, 0, 0, 0, [], [])), (14, (.aload_n 0, 15, 0, 0, 0, [], [])), (15, (.iload_n 1, 16, 0, 0, 0, [], [])), (16, (.invokevirtual 335, 19, 0, 0, 0, [], [])), (19, (.goto 25, 22, 44, 0, 0, [], [])), (22, (.aload_n 0, 23, 0, 0, 0, [], [])), (23, (.getfield 285, 26, 0, 0, 0, [], [])), (26, (.ifCond .ne 18, 29, 44, 0, 0, [], [])), (29, (.aload_n 0, 30, 0, 0, 0, [], [])), (30, (.sipush 9999, 33, 0, 9999, 0, [], []))],
  [(33, (.invokevirtual 338, 36, 0, 0, 0, [], [])), (36, (.aload_n 0, 37, 0, 0, 0, [], [])), (37, (.aload_n 0, 38, 0, 0, 0, [], [])), (38, (.getfield 296, 41, 0, 0, 0, [], [])), (41, (.invokevirtual 335, 44, 0, 0, 0, [], [])), (44, (.return_, 45, 0, 0, 0, [], []))]]
noncomputable abbrev zT_242 : zT := (12, zI_242, 0, 2) -- X12_valueHere
noncomputable def zI_243 : List (List (Nat × zE)) := [[(0, (.aload_n 0, 1, 0, 0, 0, [], [])), (1, (.invokevirtual 341, 4, 0, 0, 0, [], [])), (4, (.aload_n 0, 5, 0, 0, 0, [], [])), (5, (.getfield 285, 8, 0, 0, 0, [], [])), (8, (.ifCond .eq 7, 11, 15, 0, 0, [], [])), (11, (.iconst (-1), 12, 0, (-1), 0, [], [])), (12, (.goto 11, 15, 23, 0, 0, [], [])), (15, (.aload_n 0, 16, 0, 0, 0, [], [])), (16, (.aload_n 0, 17, 0, 0, 0, [], [])), (17, (.getfield 273, 20, 0, 0, 0, [], [])), (20, (.invokevirtual 276, 23, 0, 0, 0, [], [])), (23, (.istore_n 1, 24, 0, 0, 0, [], [true, false])), (24, (.aload_n 0, 25, 0, 0, 0, [], [])), (25, (.iload_n 1, 26, 0, 0, 0, [], [])), (26, (.bipush 60, 28, 0, 60, 0, [], [])), (28, (.if_icmp .eq 15, 31, 43, 0, 0, [], [])), (31, (.iload_n 1, 32, 0, 0, 0, [], []))],
  [(32, (.bipush 61, 34, 0, 61, 0, [], [])), (34, (.if_icmp .eq 9, 37, 43, 0, 0, [], [])), (37, (.iload_n 1, 38, 0, 0, 0, [], [])), (38, (.bipush 62, 40, 0, 62, 0, [], [])), (40, (.if_icmp .ne 7, 43, 47, 0, 0, [], [])), (43, (.iconst 1, 44, 0, 1, 0, [], [true, true])), (44, (.goto 4, 47, 48, 0, 0, [], [])), (47, (.iconst 0, 48, 0, 0, 0, [], [])), (48, (.invokevirtual 299, 51, 0, 0, 0, [], [true, true])), (51, (.aload_n 0, 52, 0, 0, 0, [], [])), (52, (.invokevirtual 341, 55, 0, 0, 0, [], [])), (55, (.aload_n 0, 56, 0, 0, 0, [], [])), (56, (.iload_n 1, 57, 0, 0, 0, [], [])), (57, (.bipush 60, 59, 0, 60, 0, [], [])), (59, (.if_icmp .ne 8, 62, 67, 0, 0, [], [])), (62, (.bipush (-11), 64, 0, (-11), 0, [], []))],
  [(64, (.goto 16, 67, 80, 0, 0, [], [])), (67, (.iload_n 1, 68, 0, 0, 0, [], [])), (68, (.bipush 61, 70, 0, 61, 0, [], [])), (70, (.if_icmp .ne 8, 73, 78, 0, 0, [], [])), (73, (.bipush (-12), 75, 0, (-12), 0, [], [])), (75, (.goto 5, 78, 80, 0, 0, [], [])), (78, (.bipush (-13), 80, 0, (-13), 0, [], [])), (80, (.invokevirtual 335, 83, 0, 0, 0, [], [])), (83, (.return_, 84, 0, 0, 0, [], []))]]
noncomputable abbrev zT_243 : zT := (12, zI_243, 0, 2) -- X12_comparison
noncomputable def zI_244 : List (List (Nat × zE)) := [[(0, (.iconst 0, 1, 0, 0, 0, [], [])), (1, (.istore_n 1, 2, 0, 0, 0, [], [])), (2, (.aload_n 0, 3, 0, 0, 0, [], [true, true])), (3, (.invokevirtual 303, 6, 0, 0, 0, [], [])), (6, (.ldc2_w 344, 9, 0, 0, 14836, [], [])), (9, (.lcmp, 10, 0, 0, 0, [], [])), (10, (.ifCond .ne 21, 13, 31, 0, 0, [], [])), (13, (.iload_n 1, 14, 0, 0, 0, [], [])), (14, (.ifCond .ne 7, 17, 21, 0, 0, [], [])), (17, (.iconst 1, 18, 0, 1, 0, [], [])), (18, (.goto 4, 21, 22, 0, 0, [], [])), (21, (.iconst 0, 22, 0, 0, 0, [], [])), (22, (.istore_n 1, 23, 0, 0, 0, [], [])), (23, (.aload_n 0, 24, 0, 0, 0, [], [])), (24, (.iconst 1, 25, 0, 1, 0, [], [])), (25, (.invokevirtual 299, 28, 0, 0, 0, [], [])), (28, (.goto (-26), 31, 2, 0, 0, [], [])), (31, (.aload_n 0, 32, 0, 0, 0, [], []))],
  [(32, (.getfield 285, 35, 0, 0, 0, [], [])), (35, (.ifCond .ne 89, 38, 124, 0, 0, [], [])), (38, (.aload_n 0, 39, 0, 0, 0, [], [])), (39, (.aload_n 0, 40, 0, 0, 0, [], [])), (40, (.getfield 273, 43, 0, 0, 0, [], [])), (43, (.invokevirtual 276, 46, 0, 0, 0, [], [])), (46, (.bipush 40, 48, 0, 40, 0, [], [])), (48, (.if_icmp .ne 76, 51, 124, 0, 0, [], [])), (51, (.aload_n 0, 52, 0, 0, 0, [], [])), (52, (.aload_n 0, 53, 0, 0, 0, [], [])), (53, (.getfield 346, 56, 0, 0, 0, [], [])), (56, (.iconst 3, 57, 0, 3, 0, [], [])), (57, (.if_icmp .ge 7, 60, 64, 0, 0, [], [])), (60, (.iconst 1, 61, 0, 1, 0, [], [])), (61, (.goto 4, 64, 65, 0, 0, [], []))],
  [(64, (.iconst 0, 65, 0, 0, 0, [], [])), (65, (.invokevirtual 299, 68, 0, 0, 0, [], [true, true])), (68, (.aload_n 0, 69, 0, 0, 0, [], [])), (69, (.dup, 70, 0, 0, 0, [], [])), (70, (.getfield 346, 73, 0, 0, 0, [], [])), (73, (.iconst 1, 74, 0, 1, 0, [], [])), (74, (.iadd, 75, 0, 0, 0, [], [])), (75, (.putfield 346, 78, 0, 0, 0, [], [])), (78, (.aload_n 0, 79, 0, 0, 0, [], [])), (79, (.invokevirtual 349, 82, 0, 0, 0, [], [])), (82, (.aload_n 0, 83, 0, 0, 0, [], [])), (83, (.dup, 84, 0, 0, 0, [], [])), (84, (.getfield 346, 87, 0, 0, 0, [], [])), (87, (.iconst 1, 88, 0, 1, 0, [], [])), (88, (.isub, 89, 0, 0, 0, [], [])), (89, (.putfield 346, 92, 0, 0, 0, [], [])), (92, (.aload_n 0, 93, 0, 0, 0, [], [])), (93, (.aload_n 0, 94, 0, 0, 0, [], [])), (94, (.getfield 285, 97, 0, 0, 0, [], []))],
  [(97, (.ifCond .ne 20, 100, 117, 0, 0, [], [])), (100, (.aload_n 0, 101, 0, 0, 0, [], [])), (101, (.aload_n 0, 102, 0, 0, 0, [], [])), (102, (.getfield 273, 105, 0, 0, 0, [], [])), (105, (.invokevirtual 276, 108, 0, 0, 0, [], [])), (108, (.bipush 41, 110, 0, 41, 0, [], [])), (110, (.if_icmp .ne 7, 113, 117, 0, 0, [], [])), (113, (.iconst 1, 114, 0, 1, 0, [], [])), (114, (.goto 4, 117, 118, 0, 0, [], [])), (117, (.iconst 0, 118, 0, 0, 0, [], [])), (118, (.invokevirtual 299, 121, 0, 0, 0, [], [])), (121, (.goto 7, 124, 128, 0, 0, [], [])), (124, (.aload_n 0, 125, 0, 0, 0, [], [])), (125, (.invokevirtual 352, 128, 0, 0, 0, [], []))],
  [(128, (.iload_n 1, 129, 0, 0, 0, [], [])), (129, (.ifCond .eq 9, 132, 138, 0, 0, [], [])), (132, (.aload_n 0, 133, 0, 0, 0, [], [])), (133, (.bipush (-20), 135, 0, (-20), 0, [], [])), (135, (.invokevirtual 335, 138, 0, 0, 0, [], [])), (138, (.return_, 139, 0, 0, 0, [], []))]]
noncomputable abbrev zT_244 : zT := (12, zI_244, 0, 2) -- X12_one
noncomputable def zI_245 : List (List (Nat × zE)) := [[(0, (.aload_n 0, 1, 0, 0, 0, [], [])), (1, (.invokevirtual 355, 4, 0, 0, 0, [], [])), (4, (.aload_n 0, 5, 0, 0, 0, [], [true])), (5, (.invokevirtual 303, 8, 0, 0, 0, [], [])), (8, (.ldc2_w 358, 11, 0, 0, 1476, [], [])), (11, (.lcmp, 12, 0, 0, 0, [], [])), (12, (.ifCond .ne 21, 15, 33, 0, 0, [], [])), (15, (.aload_n 0, 16, 0, 0, 0, [], [])), (16, (.iconst 1, 17, 0, 1, 0, [], [])), (17, (.invokevirtual 299, 20, 0, 0, 0, [], [])), (20, (.aload_n 0, 21, 0, 0, 0, [], [])), (21, (.invokevirtual 355, 24, 0, 0, 0, [], [])), (24, (.aload_n 0, 25, 0, 0, 0, [], [])), (25, (.bipush (-21), 27, 0, (-21), 0, [], [])), (27, (.invokevirtual 335, 30, 0, 0, 0, [], [])), (30, (.goto (-26), 33, 4, 0, 0, [], []))],
  [(33, (.return_, 34, 0, 0, 0, [], []))]]
noncomputable abbrev zT_245 : zT := (12, zI_245, 0, 1) -- X12_all
noncomputable def zI_246 : List (List (Nat × zE)) := [[(0, (.aload_n 0, 1, 0, 0, 0, [], [])), (1, (.getfield 285, 4, 0, 0, 0, [], [])), (4, (.ifCond .eq 4, 7, 8, 0, 0, [], [])), (7, (.return_, 8, 0, 0, 0, [], [])), (8, (.aload_n 0, 9, 0, 0, 0, [], [])), (9, (.invokevirtual 360, 12, 0, 0, 0, [], [])), (12, (.aload_n 0, 13, 0, 0, 0, [], [true])), (13, (.invokevirtual 303, 16, 0, 0, 0, [], [])), (16, (.ldc2_w 363, 19, 0, 0, 498, [], [])), (19, (.lcmp, 20, 0, 0, 0, [], [])), (20, (.ifCond .ne 21, 23, 41, 0, 0, [], [])), (23, (.aload_n 0, 24, 0, 0, 0, [], [])), (24, (.iconst 1, 25, 0, 1, 0, [], [])), (25, (.invokevirtual 299, 28, 0, 0, 0, [], [])), (28, (.aload_n 0, 29, 0, 0, 0, [], [])), (29, (.invokevirtual 360, 32, 0, 0, 0, [], []))],
  [(32, (.aload_n 0, 33, 0, 0, 0, [], [])), (33, (.bipush (-22), 35, 0, (-22), 0, [], [])), (35, (.invokevirtual 335, 38, 0, 0, 0, [], [])), (38, (.goto (-26), 41, 12, 0, 0, [], [])), (41, (.return_, 42, 0, 0, 0, [], []))]]
noncomputable abbrev zT_246 : zT := (12, zI_246, 0, 1) -- X12_condition
noncomputable def zI_247 : List (List (Nat × zE)) := [[(0, (.aload_n 0, 1, 0, 0, 0, [], [])), (1, (.invokevirtual 365, 4, 0, 0, 0, [], [])), (4, (.istore_n 1, 5, 0, 0, 0, [], [])), (5, (.aload_n 0, 6, 0, 0, 0, [], [])), (6, (.iload_n 1, 7, 0, 0, 0, [], [])), (7, (.ifCond .lt 18, 10, 25, 0, 0, [], [])), (10, (.aload_n 0, 11, 0, 0, 0, [], [])), (11, (.getfield 7, 14, 0, 0, 0, [], [])), (14, (.iconst 1, 15, 0, 1, 0, [], [])), (15, (.iaload, 16, 2, 0, 0, [], [])), (16, (.bipush 8, 18, 0, 8, 0, [], [])), (18, (.if_icmp .ge 7, 21, 25, 0, 0, [], [])), (21, (.iconst 1, 22, 0, 1, 0, [], [])), (22, (.goto 4, 25, 26, 0, 0, [], [])), (25, (.iconst 0, 26, 0, 0, 0, [], [true, true, false, false, false, false, false])), (26, (.invokevirtual 299, 29, 0, 0, 0, [], [true, true, false, false, false, false, false])), (29, (.aload_n 0, 30, 0, 0, 0, [], [])), (30, (.invokevirtual 303, 33, 0, 0, 0, [], []))],
  [(33, (.ldc2_w 368, 36, 0, 0, 294, [], [])), (36, (.lcmp, 37, 0, 0, 0, [], [])), (37, (.ifCond .ne 12, 40, 49, 0, 0, [], [])), (40, (.aload_n 0, 41, 0, 0, 0, [], [])), (41, (.iconst 1, 42, 0, 1, 0, [], [])), (42, (.invokevirtual 299, 45, 0, 0, 0, [], [])), (45, (.aload_n 0, 46, 0, 0, 0, [], [])), (46, (.invokevirtual 349, 49, 0, 0, 0, [], [])), (49, (.aload_n 0, 50, 0, 0, 0, [], [true, true, false, false, false, false, false])), (50, (.invokevirtual 303, 53, 0, 0, 0, [], [])), (53, (.lstore_n 2, 54, 0, 0, 0, [], [])), (54, (.lload_n 2, 55, 0, 0, 0, [], [])), (55, (.ldc2_w 370, 58, 0, 0, 441925, [], [])), (58, (.lcmp, 59, 0, 0, 0, [], [])), (59, (.ifCond .ne 7, 62, 66, 0, 0, [], [])), (62, (.iconst 0, 63, 0, 0, 0, [], [])), (63, (.goto 28, 66, 91, 0, 0, [], []))],
  [(66, (.lload_n 2, 67, 0, 0, 0, [], [])), (67, (.ldc2_w 372, 70, 0, 0, 398963, [], [])), (70, (.lcmp, 71, 0, 0, 0, [], [])), (71, (.ifCond .ne 7, 74, 78, 0, 0, [], [])), (74, (.iconst 1, 75, 0, 1, 0, [], [])), (75, (.goto 16, 78, 91, 0, 0, [], [])), (78, (.lload_n 2, 79, 0, 0, 0, [], [])), (79, (.ldc2_w 374, 82, 0, 0, 3764, [], [])), (82, (.lcmp, 83, 0, 0, 0, [], [])), (83, (.ifCond .ne 7, 86, 90, 0, 0, [], [])), (86, (.iconst 2, 87, 0, 2, 0, [], [])), (87, (.goto 4, 90, 91, 0, 0, [], [])), (90, (.iconst (-1), 91, 0, (-1), 0, [], [])), (91, (.istore 4, 93, 0, 0, 0, [], [true, true, false, false, false, false, false])), (93, (.aload_n 0, 94, 0, 0, 0, [], [])), (94, (.iload 4, 96, 0, 0, 0, [], []))],
  [(96, (.ifCond .lt 7, 99, 103, 0, 0, [], [])), (99, (.iconst 1, 100, 0, 1, 0, [], [])), (100, (.goto 4, 103, 104, 0, 0, [], [])), (103, (.iconst 0, 104, 0, 0, 0, [], [])), (104, (.invokevirtual 299, 107, 0, 0, 0, [], [true, true, false, false, true, false, false])), (107, (.aload_n 0, 108, 0, 0, 0, [], [])), (108, (.iconst 0, 109, 0, 0, 0, [], [])), (109, (.putfield 296, 112, 0, 0, 0, [], [])), (112, (.iload 4, 114, 0, 0, 0, [], [])), (114, (.ifCond .lt 23, 117, 137, 0, 0, [], [])), (117, (.iload 4, 119, 0, 0, 0, [], [])), (119, (.iconst 2, 120, 0, 2, 0, [], [])), (120, (.if_icmp .eq 17, 123, 137, 0, 0, [], [])), (123, (.aload_n 0, 124, 0, 0, 0, [], [])), (124, (.getfield 285, 127, 0, 0, 0, [], [])), (127, (.ifCond .ne 10, 130, 137, 0, 0, [], []))],
  [(130, (.aload_n 0, 131, 0, 0, 0, [], [])), (131, (.sipush 999, 134, 0, 999, 0, [], [])), (134, (.invokevirtual 338, 137, 0, 0, 0, [], [])), (137, (.aload_n 0, 138, 0, 0, 0, [], [true, true, false, false, true, false, false])), (138, (.getfield 296, 141, 0, 0, 0, [], [])), (141, (.istore 5, 143, 0, 0, 0, [], [])), (143, (.aload_n 0, 144, 0, 0, 0, [], [])), (144, (.aload_n 0, 145, 0, 0, 0, [], [])), (145, (.getfield 285, 148, 0, 0, 0, [], [])), (148, (.ifCond .ne 20, 151, 168, 0, 0, [], [])), (151, (.aload_n 0, 152, 0, 0, 0, [], [])), (152, (.aload_n 0, 153, 0, 0, 0, [], [])), (153, (.getfield 273, 156, 0, 0, 0, [], [])), (156, (.invokevirtual 276, 159, 0, 0, 0, [], [])), (159, (.bipush 59, 161, 0, 59, 0, [], []))],
  [(161, (.if_icmp .ne 7, 164, 168, 0, 0, [], [])), (164, (.iconst 1, 165, 0, 1, 0, [], [])), (165, (.goto 4, 168, 169, 0, 0, [], [])), (168, (.iconst 0, 169, 0, 0, 0, [], [true, true, false, false, true, true, false])), (169, (.invokevirtual 299, 172, 0, 0, 0, [], [true, true, false, false, true, true, false])), (172, (.aload_n 0, 173, 0, 0, 0, [], [])), (173, (.getfield 285, 176, 0, 0, 0, [], [])), (176, (.ifCond .ne 71, 179, 247, 0, 0, [], [])), (179, (.bipush 88, 181, 0, 88, 0, [], [])), (181, (.iconst 4, 182, 0, 4, 0, [], [])), (182, (.aload_n 0, 183, 0, 0, 0, [], [])), (183, (.getfield 7, 186, 0, 0, 0, [], [])), (186, (.iconst 1, 187, 0, 1, 0, [], [])), (187, (.iaload, 188, 2, 0, 0, [], [])), (188, (.imul, 189, 0, 0, 0, [], [])), (189, (.iadd, 190, 0, 0, 0, [], [])), (190, (.istore 6, 192, 0, 0, 0, [], []))],
  [(192, (.aload_n 0, 193, 0, 0, 0, [], [])), (193, (.getfield 7, 196, 0, 0, 0, [], [])), (196, (.iload 6, 198, 0, 0, 0, [], [])), (198, (.iconst 0, 199, 0, 0, 0, [], [])), (199, (.iadd, 200, 0, 0, 0, [], [])), (200, (.iload_n 1, 201, 0, 0, 0, [], [])), (201, (.iastore, 202, 0, 0, 0, [], [])), (202, (.aload_n 0, 203, 0, 0, 0, [], [])), (203, (.getfield 7, 206, 0, 0, 0, [], [])), (206, (.iload 6, 208, 0, 0, 0, [], [])), (208, (.iconst 1, 209, 0, 1, 0, [], [])), (209, (.iadd, 210, 0, 0, 0, [], [])), (210, (.iload 4, 212, 0, 0, 0, [], [])), (212, (.iastore, 213, 0, 0, 0, [], [])), (213, (.aload_n 0, 214, 0, 0, 0, [], [])), (214, (.getfield 7, 217, 0, 0, 0, [], [])), (217, (.iload 6, 219, 0, 0, 0, [], [])), (219, (.iconst 2, 220, 0, 2, 0, [], [])), (220, (.iadd, 221, 0, 0, 0, [], [])), (221, (.iload 5, 223, 0, 0, 0, [], [])), (223, (.iastore, 224, 0, 0, 0, [], []))],
  [(224, (.aload_n 0, 225, 0, 0, 0, [], [])), (225, (.getfield 7, 228, 0, 0, 0, [], [])), (228, (.iload 6, 230, 0, 0, 0, [], [])), (230, (.iconst 3, 231, 0, 3, 0, [], [])), (231, (.iadd, 232, 0, 0, 0, [], [])), (232, (.aload_n 0, 233, 0, 0, 0, [], [])), (233, (.getfield 329, 236, 0, 0, 0, [], [])), (236, (.iastore, 237, 0, 0, 0, [], [])), (237, (.aload_n 0, 238, 0, 0, 0, [], [])), (238, (.getfield 7, 241, 0, 0, 0, [], [])), (241, (.iconst 1, 242, 0, 1, 0, [], [])), (242, (.dup2, 243, 0, 0, 0, [], [])), (243, (.iaload, 244, 2, 0, 0, [], [])), (244, (.iconst 1, 245, 0, 1, 0, [], [])), (245, (.iadd, 246, 0, 0, 0, [], [])), (246, (.iastore, 247, 2, 0, 0, [], [])), (247, (.return_, 248, 0, 0, 0, [], []))]]
noncomputable abbrev zT_247 : zT := (12, zI_247, 0, 7) -- X12_rule
noncomputable def zI_248 : List (List (Nat × zE)) := [[(0, (.aload_n 0, 1, 0, 0, 0, [], [])), (1, (.invokevirtual 168, 4, 0, 0, 0, [], [])), (4, (.aload_n 0, 5, 0, 0, 0, [], [])), (5, (.getfield 7, 8, 0, 0, 0, [], [])), (8, (.iconst 1, 9, 0, 1, 0, [], [])), (9, (.iconst 0, 10, 0, 0, 0, [], [])), (10, (.iastore, 11, 2, 0, 0, [], [])), (11, (.aload_n 0, 12, 0, 0, 0, [], [])), (12, (.iconst 0, 13, 0, 0, 0, [], [])), (13, (.putfield 329, 16, 0, 0, 0, [], [])), (16, (.aload_n 0, 17, 0, 0, 0, [], [])), (17, (.iconst 0, 18, 0, 0, 0, [], [])), (18, (.putfield 346, 21, 0, 0, 0, [], [])), (21, (.aload_n 0, 22, 0, 0, 0, [], [])), (22, (.iconst 0, 23, 0, 0, 0, [], [])), (23, (.putfield 270, 26, 0, 0, 0, [], [])), (26, (.aload_n 0, 27, 0, 0, 0, [], [])), (27, (.iconst 0, 28, 0, 0, 0, [], [])), (28, (.putfield 285, 31, 0, 0, 0, [], [])), (31, (.aload_n 0, 32, 0, 0, 0, [], []))],
  [(32, (.invokevirtual 289, 35, 0, 0, 0, [], [])), (35, (.aload_n 0, 36, 0, 0, 0, [], [true])), (36, (.getfield 285, 39, 0, 0, 0, [], [])), (39, (.ifCond .ne 21, 42, 60, 0, 0, [], [])), (42, (.aload_n 0, 43, 0, 0, 0, [], [])), (43, (.getfield 273, 46, 0, 0, 0, [], [])), (46, (.aload_n 0, 47, 0, 0, 0, [], [])), (47, (.getfield 257, 50, 0, 0, 0, [], [])), (50, (.if_icmp .ge 10, 53, 60, 0, 0, [], [])), (53, (.aload_n 0, 54, 0, 0, 0, [], [])), (54, (.invokevirtual 376, 57, 0, 0, 0, [], [])), (57, (.goto (-22), 60, 35, 0, 0, [], [])), (60, (.aload_n 0, 61, 0, 0, 0, [], [true])), (61, (.iconst 0, 62, 0, 0, 0, [], [])), (62, (.putfield 257, 65, 0, 0, 0, [], []))],
  [(65, (.aload_n 0, 66, 0, 0, 0, [], [])), (66, (.getfield 285, 69, 0, 0, 0, [], [])), (69, (.ifCond .eq 15, 72, 84, 0, 0, [], [])), (72, (.aload_n 0, 73, 0, 0, 0, [], [])), (73, (.invokevirtual 171, 76, 0, 0, 0, [], [])), (76, (.bipush (-100), 78, 0, (-100), 0, [], [])), (78, (.aload_n 0, 79, 0, 0, 0, [], [])), (79, (.getfield 273, 82, 0, 0, 0, [], [])), (82, (.isub, 83, 0, 0, 0, [], [])), (83, (.ireturn, 84, 0, 0, 0, [], [])), (84, (.aload_n 0, 85, 0, 0, 0, [], [])), (85, (.getfield 7, 88, 0, 0, 0, [], [])), (88, (.iconst 1, 89, 0, 1, 0, [], [])), (89, (.iaload, 90, 2, 0, 0, [], [])), (90, (.ireturn, 91, 0, 0, 0, [], []))]]
noncomputable abbrev zT_248 : zT := (12, zI_248, 1, 1) -- X12_rules
noncomputable def zI_249 : List (List (Nat × zE)) := [[(0, (.iload_n 0, 1, 0, 0, 0, [], [])), (1, (.i2l, 2, 0, 0, 0, [], [])), (2, (.lconst 0, 3, 0, 0, 0, [], [])), (3, (.ldc2_w 204, 6, 0, 0, 3, [], [])), (6, (.invokestatic 67, 9, 0, 0, 0, [], [])), (9, (.ireturn, 10, 0, 0, 0, [], []))]]
noncomputable abbrev zT_249 : zT := (12, zI_249, 3, 1) -- X12_isOne
noncomputable def zI_250 : List (List (Nat × zE)) := [[(0, (.iload_n 1, 1, 0, 0, 0, [], [])), (1, (.invokestatic 379, 4, 0, 0, 0, [], [])), (4, (.ifCond .eq 27, 7, 31, 0, 0, [], [])), (7, (.iload_n 2, 8, 0, 0, 0, [], [])), (8, (.i2l, 9, 0, 0, 0, [], [])), (9, (.ldc2_w 382, 12, 0, 0, (-1), [], [])), (12, (.ldc2_w 222, 15, 0, 0, 4, [], [])), (15, (.invokestatic 67, 18, 0, 0, 0, [], [])), (18, (.ifCond .eq 13, 21, 31, 0, 0, [], [])), (21, (.iload_n 2, 22, 0, 0, 0, [], [])), (22, (.ifCond .lt 11, 25, 33, 0, 0, [], [])), (25, (.iload_n 3, 26, 0, 0, 0, [], [])), (26, (.bipush 40, 28, 0, 40, 0, [], [])), (28, (.if_icmp .le 5, 31, 33, 0, 0, [], [])), (31, (.iconst (-1), 32, 0, (-1), 0, [], []))],
  [(32, (.ireturn, 33, 0, 0, 0, [], [])), (33, (.iload_n 2, 34, 0, 0, 0, [], [true, true, true, true, false])), (34, (.ifCond .lt 10, 37, 44, 0, 0, [], [])), (37, (.iload_n 3, 38, 0, 0, 0, [], [])), (38, (.ifCond .ge 6, 41, 44, 0, 0, [], [])), (41, (.bipush (-14), 43, 0, (-14), 0, [], [])), (43, (.ireturn, 44, 0, 0, 0, [], [])), (44, (.aload_n 0, 45, 0, 0, 0, [], [true, true, true, true, false])), (45, (.getfield 46, 48, 0, 0, 0, [], [])), (48, (.iload_n 1, 49, 0, 0, 0, [], [])), (49, (.iload_n 2, 50, 0, 0, 0, [], [])), (50, (.iastore, 51, 0, 0, 0, [], [])), (51, (.aload_n 0, 52, 0, 0, 0, [], [])), (52, (.getfield 49, 55, 0, 0, 0, [], [])), (55, (.iload_n 1, 56, 0, 0, 0, [], [])), (56, (.iload_n 2, 57, 0, 0, 0, [], [])), (57, (.ifCond .ge 7, 60, 64, 0, 0, [], [])), (60, (.iconst 0, 61, 0, 0, 0, [], [])), (61, (.goto 4, 64, 65, 0, 0, [], []))],
  [(64, (.iload_n 3, 65, 0, 0, 0, [], [])), (65, (.iastore, 66, 0, 0, 0, [], [])), (66, (.iconst 0, 67, 0, 0, 0, [], [])), (67, (.istore 4, 69, 0, 0, 0, [], [])), (69, (.iload 4, 71, 0, 0, 0, [], [true, true, false, false, true])), (71, (.bipush 40, 73, 0, 40, 0, [], [])), (73, (.if_icmp .ge 22, 76, 95, 0, 0, [], [])), (76, (.aload_n 0, 77, 0, 0, 0, [], [])), (77, (.getfield 52, 80, 0, 0, 0, [], [])), (80, (.bipush 40, 82, 0, 40, 0, [], [])), (82, (.iload_n 1, 83, 0, 0, 0, [], [])), (83, (.imul, 84, 0, 0, 0, [], [])), (84, (.iload 4, 86, 0, 0, 0, [], [])), (86, (.iadd, 87, 0, 0, 0, [], [])), (87, (.iconst 0, 88, 0, 0, 0, [], [])), (88, (.iastore, 89, 0, 0, 0, [], [])), (89, (.iinc 4 1, 92, 0, 1, 0, [], [])), (92, (.goto (-23), 95, 69, 0, 0, [], [])), (95, (.iconst 1, 96, 0, 1, 0, [], []))],
  [(96, (.ireturn, 97, 0, 0, 0, [], []))]]
noncomputable abbrev zT_250 : zT := (12, zI_250, 1, 5) -- X12_sheet
noncomputable def zI_251 : List (List (Nat × zE)) := [[(0, (.iload_n 0, 1, 0, 0, 0, [], [])), (1, (.ifCond .ne 8, 4, 9, 0, 0, [], [])), (4, (.iload_n 1, 5, 0, 0, 0, [], [])), (5, (.i2b, 6, 0, 0, 0, [], [])), (6, (.goto 31, 9, 37, 0, 0, [], [])), (9, (.iload_n 0, 10, 0, 0, 0, [], [])), (10, (.iconst 1, 11, 0, 1, 0, [], [])), (11, (.if_icmp .ne 8, 14, 19, 0, 0, [], [])), (14, (.iload_n 1, 15, 0, 0, 0, [], [])), (15, (.i2s, 16, 0, 0, 0, [], [])), (16, (.goto 21, 19, 37, 0, 0, [], [])), (19, (.iload_n 0, 20, 0, 0, 0, [], [])), (20, (.iconst 4, 21, 0, 4, 0, [], [])), (21, (.if_icmp .ne 15, 24, 36, 0, 0, [], [])), (24, (.iload_n 1, 25, 0, 0, 0, [], [])), (25, (.ifCond .ne 7, 28, 32, 0, 0, [], [])), (28, (.iconst 0, 29, 0, 0, 0, [], [])), (29, (.goto 8, 32, 37, 0, 0, [], []))],
  [(32, (.iconst 1, 33, 0, 1, 0, [], [])), (33, (.goto 4, 36, 37, 0, 0, [], [])), (36, (.iload_n 1, 37, 0, 0, 0, [], [])), (37, (.ireturn, 38, 0, 0, 0, [], []))]]
noncomputable abbrev zT_251 : zT := (12, zI_251, 1, 2) -- X12_narrowed
noncomputable def zI_252 : List (List (Nat × zE)) := [[(0, (.iload_n 1, 1, 0, 0, 0, [], [])), (1, (.invokestatic 379, 4, 0, 0, 0, [], [])), (4, (.ifCond .ne 5, 7, 9, 0, 0, [], [])), (7, (.iconst (-1), 8, 0, (-1), 0, [], [])), (8, (.ireturn, 9, 0, 0, 0, [], [])), (9, (.aload_n 0, 10, 0, 0, 0, [], [])), (10, (.getfield 46, 13, 0, 0, 0, [], [])), (13, (.iload_n 1, 14, 0, 0, 0, [], [])), (14, (.iaload, 15, 0, 0, 0, [], [])), (15, (.ifCond .ge 6, 18, 21, 0, 0, [], [])), (18, (.bipush (-11), 20, 0, (-11), 0, [], [])), (20, (.ireturn, 21, 0, 0, 0, [], [])), (21, (.iload_n 2, 22, 0, 0, 0, [], [])), (22, (.i2l, 23, 0, 0, 0, [], [])), (23, (.lconst 0, 24, 0, 0, 0, [], [])), (24, (.aload_n 0, 25, 0, 0, 0, [], [])), (25, (.getfield 49, 28, 0, 0, 0, [], [])), (28, (.iload_n 1, 29, 0, 0, 0, [], [])), (29, (.iaload, 30, 0, 0, 0, [], [])), (30, (.iconst 1, 31, 0, 1, 0, [], [])), (31, (.isub, 32, 0, 0, 0, [], []))],
  [(32, (.i2l, 33, 0, 0, 0, [], [])), (33, (.invokestatic 67, 36, 0, 0, 0, [], [])), (36, (.ifCond .ne 6, 39, 42, 0, 0, [], [])), (39, (.bipush (-12), 41, 0, (-12), 0, [], [])), (41, (.ireturn, 42, 0, 0, 0, [], [])), (42, (.aload_n 0, 43, 0, 0, 0, [], [])), (43, (.getfield 52, 46, 0, 0, 0, [], [])), (46, (.bipush 40, 48, 0, 40, 0, [], [])), (48, (.iload_n 1, 49, 0, 0, 0, [], [])), (49, (.imul, 50, 0, 0, 0, [], [])), (50, (.iload_n 2, 51, 0, 0, 0, [], [])), (51, (.iadd, 52, 0, 0, 0, [], [])), (52, (.aload_n 0, 53, 0, 0, 0, [], [])), (53, (.getfield 46, 56, 0, 0, 0, [], [])), (56, (.iload_n 1, 57, 0, 0, 0, [], [])), (57, (.iaload, 58, 0, 0, 0, [], [])), (58, (.iload_n 3, 59, 0, 0, 0, [], [])), (59, (.invokestatic 384, 62, 0, 0, 0, [], [])), (62, (.iastore, 63, 0, 0, 0, [], [])), (63, (.iconst 1, 64, 0, 1, 0, [], []))],
  [(64, (.ireturn, 65, 0, 0, 0, [], []))]]
noncomputable abbrev zT_252 : zT := (12, zI_252, 1, 4) -- X12_write
noncomputable def zI_253 : List (List (Nat × zE)) := [[(0, (.aload_n 0, 1, 0, 0, 0, [], [])), (1, (.getfield 46, 4, 0, 0, 0, [], [])), (4, (.iload_n 1, 5, 0, 0, 0, [], [])), (5, (.iaload, 6, 0, 0, 0, [], [])), (6, (.ifCond .ge 8, 9, 14, 0, 0, [], [])), (9, (.bipush (-11), 11, 0, (-11), 0, [], [])), (11, (.goto 19, 14, 30, 0, 0, [], [])), (14, (.aload_n 0, 15, 0, 0, 0, [], [])), (15, (.getfield 46, 18, 0, 0, 0, [], [])), (18, (.iload_n 1, 19, 0, 0, 0, [], [])), (19, (.iaload, 20, 0, 0, 0, [], [])), (20, (.iload_n 2, 21, 0, 0, 0, [], [])), (21, (.if_icmp .eq 8, 24, 29, 0, 0, [], [])), (24, (.bipush (-13), 26, 0, (-13), 0, [], [])), (26, (.goto 4, 29, 30, 0, 0, [], [])), (29, (.iconst 0, 30, 0, 0, 0, [], [])), (30, (.ireturn, 31, 0, 0, 0, [], []))]]
noncomputable abbrev zT_253 : zT := (12, zI_253, 1, 3) -- X12_wrong
noncomputable def zI_254 : List (List (Nat × zE)) := [[(0, (.iload_n 1, 1, 0, 0, 0, [], [])), (1, (.invokestatic 379, 4, 0, 0, 0, [], [])), (4, (.ifCond .eq 15, 7, 19, 0, 0, [], [])), (7, (.iload_n 2, 8, 0, 0, 0, [], [])), (8, (.i2l, 9, 0, 0, 0, [], [])), (9, (.lconst 0, 10, 0, 0, 0, [], [])), (10, (.ldc2_w 222, 13, 0, 0, 4, [], [])), (13, (.invokestatic 67, 16, 0, 0, 0, [], [])), (16, (.ifCond .ne 5, 19, 21, 0, 0, [], [])), (19, (.iconst (-1), 20, 0, (-1), 0, [], [])), (20, (.ireturn, 21, 0, 0, 0, [], [])), (21, (.aload_n 0, 22, 0, 0, 0, [], [])), (22, (.iload_n 1, 23, 0, 0, 0, [], [])), (23, (.iload_n 2, 24, 0, 0, 0, [], [])), (24, (.invokevirtual 387, 27, 0, 0, 0, [], [])), (27, (.istore 4, 29, 0, 0, 0, [], [])), (29, (.iload 4, 31, 0, 0, 0, [], [])), (31, (.ifCond .eq 8, 34, 39, 0, 0, [], []))],
  [(34, (.iload 4, 36, 0, 0, 0, [], [])), (36, (.goto 37, 39, 73, 0, 0, [], [])), (39, (.iload_n 3, 40, 0, 0, 0, [], [])), (40, (.i2l, 41, 0, 0, 0, [], [])), (41, (.lconst 0, 42, 0, 0, 0, [], [])), (42, (.aload_n 0, 43, 0, 0, 0, [], [])), (43, (.getfield 49, 46, 0, 0, 0, [], [])), (46, (.iload_n 1, 47, 0, 0, 0, [], [])), (47, (.iaload, 48, 0, 0, 0, [], [])), (48, (.iconst 1, 49, 0, 1, 0, [], [])), (49, (.isub, 50, 0, 0, 0, [], [])), (50, (.i2l, 51, 0, 0, 0, [], [])), (51, (.invokestatic 67, 54, 0, 0, 0, [], [])), (54, (.ifCond .eq 17, 57, 71, 0, 0, [], [])), (57, (.aload_n 0, 58, 0, 0, 0, [], [])), (58, (.getfield 52, 61, 0, 0, 0, [], [])), (61, (.bipush 40, 63, 0, 40, 0, [], [])), (63, (.iload_n 1, 64, 0, 0, 0, [], []))],
  [(64, (.imul, 65, 0, 0, 0, [], [])), (65, (.iload_n 3, 66, 0, 0, 0, [], [])), (66, (.iadd, 67, 0, 0, 0, [], [])), (67, (.iaload, 68, 0, 0, 0, [], [])), (68, (.goto 5, 71, 73, 0, 0, [], [])), (71, (.bipush (-12), 73, 0, (-12), 0, [], [])), (73, (.ireturn, 74, 0, 0, 0, [], []))]]
noncomputable abbrev zT_254 : zT := (12, zI_254, 1, 5) -- X12_item
noncomputable def zI_255 : List (List (Nat × zE)) := [[(0, (.aload_n 0, 1, 0, 0, 0, [], [])), (1, (.iload_n 1, 2, 0, 0, 0, [], [])), (2, (.invokevirtual 148, 5, 0, 0, 0, [], [])), (5, (.ifCond .eq 23, 8, 28, 0, 0, [], [])), (8, (.iload_n 2, 9, 0, 0, 0, [], [])), (9, (.invokestatic 379, 12, 0, 0, 0, [], [])), (12, (.ifCond .eq 16, 15, 28, 0, 0, [], [])), (15, (.iload 4, 17, 0, 0, 0, [], [])), (17, (.i2l, 18, 0, 0, 0, [], [])), (18, (.lconst 0, 19, 0, 0, 0, [], [])), (19, (.ldc2_w 390, 22, 0, 0, 20, [], [])), (22, (.invokestatic 67, 25, 0, 0, 0, [], [])), (25, (.ifCond .ne 5, 28, 30, 0, 0, [], [])), (28, (.iconst (-1), 29, 0, (-1), 0, [], [])), (29, (.ireturn, 30, 0, 0, 0, [], [])), (30, (.aload_n 0, 31, 0, 0, 0, [], [])), (31, (.iload_n 2, 32, 0, 0, 0, [], []))],
  [(32, (.iconst 0, 33, 0, 0, 0, [], [])), (33, (.invokevirtual 387, 36, 0, 0, 0, [], [])), (36, (.istore 5, 38, 0, 0, 0, [], [])), (38, (.iload 5, 40, 0, 0, 0, [], [])), (40, (.ifCond .eq 6, 43, 46, 0, 0, [], [])), (43, (.iload 5, 45, 0, 0, 0, [], [])), (45, (.ireturn, 46, 0, 0, 0, [], [])), (46, (.iconst 0, 47, 0, 0, 0, [], [])), (47, (.istore 6, 49, 0, 0, 0, [], [])), (49, (.iconst 0, 50, 0, 0, 0, [], [])), (50, (.istore 7, 52, 0, 0, 0, [], [])), (52, (.iload 7, 54, 0, 0, 0, [], [true, true, true, true, true, false, true, true, false])), (54, (.iload 4, 56, 0, 0, 0, [], [])), (56, (.if_icmp .ge 78, 59, 134, 0, 0, [], [])), (59, (.iload_n 3, 60, 0, 0, 0, [], [])), (60, (.i2l, 61, 0, 0, 0, [], [])), (61, (.iload 7, 63, 0, 0, 0, [], [])), (63, (.i2l, 64, 0, 0, 0, [], []))],
  [(64, (.ladd, 65, 0, 0, 0, [], [])), (65, (.lconst 0, 66, 0, 0, 0, [], [])), (66, (.aload_n 0, 67, 0, 0, 0, [], [])), (67, (.getfield 49, 70, 0, 0, 0, [], [])), (70, (.iload_n 2, 71, 0, 0, 0, [], [])), (71, (.iaload, 72, 0, 0, 0, [], [])), (72, (.iconst 1, 73, 0, 1, 0, [], [])), (73, (.isub, 74, 0, 0, 0, [], [])), (74, (.i2l, 75, 0, 0, 0, [], [])), (75, (.invokestatic 67, 78, 0, 0, 0, [], [])), (78, (.ifCond .ne 6, 81, 84, 0, 0, [], [])), (81, (.bipush (-12), 83, 0, (-12), 0, [], [])), (83, (.ireturn, 84, 0, 0, 0, [], [])), (84, (.aload_n 0, 85, 0, 0, 0, [], [])), (85, (.iload_n 1, 86, 0, 0, 0, [], [])), (86, (.aload_n 0, 87, 0, 0, 0, [], [])), (87, (.getfield 52, 90, 0, 0, 0, [], [])), (90, (.bipush 40, 92, 0, 40, 0, [], [])), (92, (.iload_n 2, 93, 0, 0, 0, [], [])), (93, (.imul, 94, 0, 0, 0, [], [])), (94, (.iload_n 3, 95, 0, 0, 0, [], [])), (95, (.iadd, 96, 0, 0, 0, [], []))],
  [(96, (.iload 7, 98, 0, 0, 0, [], [])), (98, (.iadd, 99, 0, 0, 0, [], [])), (99, (.iaload, 100, 0, 0, 0, [], [])), (100, (.invokevirtual 392, 103, 0, 0, 0, [], [])), (103, (.istore 8, 105, 0, 0, 0, [], [])), (105, (.iload 6, 107, 0, 0, 0, [], [])), (107, (.iload 8, 109, 0, 0, 0, [], [])), (109, (.iconst (-1), 110, 0, (-1), 0, [], [])), (110, (.if_icmp .eq 10, 113, 120, 0, 0, [], [])), (113, (.iload 8, 115, 0, 0, 0, [], [])), (115, (.bipush (-4), 117, 0, (-4), 0, [], [])), (117, (.if_icmp .ne 7, 120, 124, 0, 0, [], [])), (120, (.iconst 0, 121, 0, 0, 0, [], [])), (121, (.goto 4, 124, 125, 0, 0, [], [])), (124, (.iconst 1, 125, 0, 1, 0, [], [])), (125, (.iadd, 126, 0, 0, 0, [], [])), (126, (.istore 6, 128, 0, 0, 0, [], []))],
  [(128, (.iinc 7 1, 131, 0, 1, 0, [], [])), (131, (.goto (-79), 134, 52, 0, 0, [], [])), (134, (.iload 6, 136, 0, 0, 0, [], [])), (136, (.ireturn, 137, 0, 0, 0, [], []))]]
noncomputable abbrev zT_255 : zT := (12, zI_255, 1, 9) -- X12_climbs
noncomputable def zI_256 : List (List (Nat × zE)) := [[(0, (.iload_n 1, 1, 0, 0, 0, [], [])), (1, (.invokestatic 379, 4, 0, 0, 0, [], [])), (4, (.ifCond .eq 39, 7, 43, 0, 0, [], [])), (7, (.iload_n 2, 8, 0, 0, 0, [], [])), (8, (.i2l, 9, 0, 0, 0, [], [])), (9, (.lconst 0, 10, 0, 0, 0, [], [])), (10, (.ldc2_w 151, 13, 0, 0, 2, [], [])), (13, (.invokestatic 67, 16, 0, 0, 0, [], [])), (16, (.ifCond .eq 27, 19, 43, 0, 0, [], [])), (19, (.iload_n 2, 20, 0, 0, 0, [], [])), (20, (.ifCond .ne 11, 23, 31, 0, 0, [], [])), (23, (.aload_n 0, 24, 0, 0, 0, [], [])), (24, (.iload_n 3, 25, 0, 0, 0, [], [])), (25, (.invokevirtual 84, 28, 0, 0, 0, [], [])), (28, (.ifCond .eq 15, 31, 43, 0, 0, [], [])), (31, (.iload_n 2, 32, 0, 0, 0, [], [true, true, true, true]))],
  [(32, (.iconst 1, 33, 0, 1, 0, [], [])), (33, (.if_icmp .ne 12, 36, 45, 0, 0, [], [])), (36, (.iload_n 3, 37, 0, 0, 0, [], [])), (37, (.invokestatic 379, 40, 0, 0, 0, [], [])), (40, (.ifCond .ne 5, 43, 45, 0, 0, [], [])), (43, (.iconst (-1), 44, 0, (-1), 0, [], [])), (44, (.ireturn, 45, 0, 0, 0, [], [])), (45, (.aload_n 0, 46, 0, 0, 0, [], [true, true, true, true])), (46, (.getfield 55, 49, 0, 0, 0, [], [])), (49, (.iload_n 1, 50, 0, 0, 0, [], [])), (50, (.iload_n 2, 51, 0, 0, 0, [], [])), (51, (.ifCond .ne 7, 54, 58, 0, 0, [], [])), (54, (.iconst 1, 55, 0, 1, 0, [], [])), (55, (.goto 22, 58, 77, 0, 0, [], [])), (58, (.iload_n 2, 59, 0, 0, 0, [], [])), (59, (.iconst 1, 60, 0, 1, 0, [], [])), (60, (.if_icmp .ne 16, 63, 76, 0, 0, [], [])), (63, (.aload_n 0, 64, 0, 0, 0, [], []))],
  [(64, (.getfield 46, 67, 0, 0, 0, [], [])), (67, (.iload_n 3, 68, 0, 0, 0, [], [])), (68, (.iaload, 69, 0, 0, 0, [], [])), (69, (.ifCond .lt 7, 72, 76, 0, 0, [], [])), (72, (.iconst 2, 73, 0, 2, 0, [], [])), (73, (.goto 4, 76, 77, 0, 0, [], [])), (76, (.iconst 0, 77, 0, 0, 0, [], [true, true, true, true])), (77, (.iastore, 78, 0, 0, 0, [], [true, true, true, true])), (78, (.aload_n 0, 79, 0, 0, 0, [], [])), (79, (.getfield 58, 82, 0, 0, 0, [], [])), (82, (.iload_n 1, 83, 0, 0, 0, [], [])), (83, (.iload_n 2, 84, 0, 0, 0, [], [])), (84, (.ifCond .ne 7, 87, 91, 0, 0, [], [])), (87, (.iload_n 3, 88, 0, 0, 0, [], [])), (88, (.goto 18, 91, 106, 0, 0, [], [])), (91, (.iload_n 2, 92, 0, 0, 0, [], [])), (92, (.iconst 1, 93, 0, 1, 0, [], [])), (93, (.if_icmp .ne 12, 96, 105, 0, 0, [], []))],
  [(96, (.aload_n 0, 97, 0, 0, 0, [], [])), (97, (.getfield 49, 100, 0, 0, 0, [], [])), (100, (.iload_n 3, 101, 0, 0, 0, [], [])), (101, (.iaload, 102, 0, 0, 0, [], [])), (102, (.goto 4, 105, 106, 0, 0, [], [])), (105, (.iconst 0, 106, 0, 0, 0, [], [])), (106, (.iastore, 107, 0, 0, 0, [], [true, true, true, true])), (107, (.aload_n 0, 108, 0, 0, 0, [], [])), (108, (.getfield 61, 111, 0, 0, 0, [], [])), (111, (.iload_n 1, 112, 0, 0, 0, [], [])), (112, (.iload_n 2, 113, 0, 0, 0, [], [])), (113, (.iconst 1, 114, 0, 1, 0, [], [])), (114, (.if_icmp .ne 12, 117, 126, 0, 0, [], [])), (117, (.aload_n 0, 118, 0, 0, 0, [], [])), (118, (.getfield 46, 121, 0, 0, 0, [], [])), (121, (.iload_n 3, 122, 0, 0, 0, [], [])), (122, (.iaload, 123, 0, 0, 0, [], [])), (123, (.goto 4, 126, 127, 0, 0, [], [])), (126, (.iconst 0, 127, 0, 0, 0, [], [])), (127, (.iastore, 128, 0, 0, 0, [], []))],
  [(128, (.iconst 1, 129, 0, 1, 0, [], [])), (129, (.ireturn, 130, 0, 0, 0, [], []))]]
noncomputable abbrev zT_256 : zT := (12, zI_256, 1, 4) -- X12_shelf
noncomputable def zI_257 : List (List (Nat × zE)) := [[(0, (.iload_n 1, 1, 0, 0, 0, [], [])), (1, (.invokestatic 379, 4, 0, 0, 0, [], [])), (4, (.ifCond .eq 35, 7, 39, 0, 0, [], [])), (7, (.aload_n 0, 8, 0, 0, 0, [], [])), (8, (.getfield 55, 11, 0, 0, 0, [], [])), (11, (.iload_n 1, 12, 0, 0, 0, [], [])), (12, (.iaload, 13, 0, 0, 0, [], [])), (13, (.iconst 1, 14, 0, 1, 0, [], [])), (14, (.if_icmp .ne 25, 17, 39, 0, 0, [], [])), (17, (.aload_n 0, 18, 0, 0, 0, [], [])), (18, (.aload_n 0, 19, 0, 0, 0, [], [])), (19, (.getfield 58, 22, 0, 0, 0, [], [])), (22, (.iload_n 1, 23, 0, 0, 0, [], [])), (23, (.iaload, 24, 0, 0, 0, [], [])), (24, (.invokevirtual 84, 27, 0, 0, 0, [], [])), (27, (.ifCond .eq 12, 30, 39, 0, 0, [], [])), (30, (.aload_n 0, 31, 0, 0, 0, [], [])), (31, (.getfield 58, 34, 0, 0, 0, [], []))],
  [(34, (.iload_n 1, 35, 0, 0, 0, [], [])), (35, (.iaload, 36, 0, 0, 0, [], [])), (36, (.goto 4, 39, 40, 0, 0, [], [])), (39, (.iconst (-1), 40, 0, (-1), 0, [], [])), (40, (.ireturn, 41, 0, 0, 0, [], []))]]
noncomputable abbrev zT_257 : zT := (12, zI_257, 1, 2) -- X12_onShelf
noncomputable def zI_258 : List (List (Nat × zE)) := [[(0, (.iload_n 1, 1, 0, 0, 0, [], [])), (1, (.invokestatic 379, 4, 0, 0, 0, [], [])), (4, (.ifCond .eq 29, 7, 33, 0, 0, [], [])), (7, (.iload_n 2, 8, 0, 0, 0, [], [])), (8, (.i2l, 9, 0, 0, 0, [], [])), (9, (.lconst 0, 10, 0, 0, 0, [], [])), (10, (.ldc2_w 82, 13, 0, 0, 5, [], [])), (13, (.invokestatic 67, 16, 0, 0, 0, [], [])), (16, (.ifCond .ne 19, 19, 35, 0, 0, [], [])), (19, (.iload_n 2, 20, 0, 0, 0, [], [])), (20, (.i2l, 21, 0, 0, 0, [], [])), (21, (.ldc2_w 395, 24, 0, 0, 10, [], [])), (24, (.ldc2_w 397, 27, 0, 0, 14, [], [])), (27, (.invokestatic 67, 30, 0, 0, 0, [], [])), (30, (.ifCond .ne 5, 33, 35, 0, 0, [], []))],
  [(33, (.iconst (-1), 34, 0, (-1), 0, [], [])), (34, (.ireturn, 35, 0, 0, 0, [], [])), (35, (.aload_n 0, 36, 0, 0, 0, [], [true, true, true, false, false])), (36, (.iload_n 1, 37, 0, 0, 0, [], [])), (37, (.invokevirtual 399, 40, 0, 0, 0, [], [])), (40, (.istore_n 3, 41, 0, 0, 0, [], [])), (41, (.iload_n 3, 42, 0, 0, 0, [], [])), (42, (.ifCond .ge 16, 45, 58, 0, 0, [], [])), (45, (.aload_n 0, 46, 0, 0, 0, [], [])), (46, (.getfield 55, 49, 0, 0, 0, [], [])), (49, (.iload_n 1, 50, 0, 0, 0, [], [])), (50, (.iaload, 51, 0, 0, 0, [], [])), (51, (.iconst 2, 52, 0, 2, 0, [], [])), (52, (.if_icmp .ge 6, 55, 58, 0, 0, [], [])), (55, (.bipush (-11), 57, 0, (-11), 0, [], [])), (57, (.ireturn, 58, 0, 0, 0, [], [])), (58, (.iload_n 3, 59, 0, 0, 0, [], [true, true, true, true, false])), (59, (.ifCond .lt 30, 62, 89, 0, 0, [], [])), (62, (.iload_n 2, 63, 0, 0, 0, [], [])), (63, (.bipush 6, 65, 0, 6, 0, [], []))],
  [(65, (.if_icmp .ge 20, 68, 85, 0, 0, [], [])), (68, (.aload_n 0, 69, 0, 0, 0, [], [])), (69, (.iload_n 3, 70, 0, 0, 0, [], [])), (70, (.iconst 0, 71, 0, 0, 0, [], [])), (71, (.invokevirtual 75, 74, 0, 0, 0, [], [])), (74, (.iload_n 2, 75, 0, 0, 0, [], [])), (75, (.invokestatic 102, 78, 0, 0, 0, [], [])), (78, (.ifCond .eq 7, 81, 85, 0, 0, [], [])), (81, (.iconst 1, 82, 0, 1, 0, [], [])), (82, (.goto 25, 85, 107, 0, 0, [], [])), (85, (.iconst 0, 86, 0, 0, 0, [], [])), (86, (.goto 21, 89, 107, 0, 0, [], [])), (89, (.iload_n 2, 90, 0, 0, 0, [], [])), (90, (.bipush 10, 92, 0, 10, 0, [], [])), (92, (.isub, 93, 0, 0, 0, [], [])), (93, (.aload_n 0, 94, 0, 0, 0, [], [])), (94, (.getfield 61, 97, 0, 0, 0, [], []))],
  [(97, (.iload_n 1, 98, 0, 0, 0, [], [])), (98, (.iaload, 99, 0, 0, 0, [], [])), (99, (.if_icmp .ne 7, 102, 106, 0, 0, [], [])), (102, (.iconst 1, 103, 0, 1, 0, [], [])), (103, (.goto 4, 106, 107, 0, 0, [], [])), (106, (.iconst 0, 107, 0, 0, 0, [], [])), (107, (.istore 4, 109, 0, 0, 0, [], [])), (109, (.iload 4, 111, 0, 0, 0, [], [])), (111, (.ifCond .eq 12, 114, 123, 0, 0, [], [])), (114, (.aload_n 0, 115, 0, 0, 0, [], [])), (115, (.getfield 58, 118, 0, 0, 0, [], [])), (118, (.iload_n 1, 119, 0, 0, 0, [], [])), (119, (.iaload, 120, 0, 0, 0, [], [])), (120, (.goto 5, 123, 125, 0, 0, [], [])), (123, (.bipush (-13), 125, 0, (-13), 0, [], [])), (125, (.ireturn, 126, 0, 0, 0, [], []))]]
noncomputable abbrev zT_258 : zT := (12, zI_258, 1, 5) -- X12_taken
noncomputable def zI_259 : List (List (Nat × zE)) := [[(0, (.aload_n 0, 1, 0, 0, 0, [], [])), (1, (.getfield 402, 4, 0, 0, 0, [], [])), (4, (.ifCond .ne 32, 7, 36, 0, 0, [], [])), (7, (.aload_n 0, 8, 0, 0, 0, [], [])), (8, (.getfield 405, 11, 0, 0, 0, [], [])), (11, (.bipush 30, 13, 0, 30, 0, [], [])), (13, (.if_icmp .ge 13, 16, 26, 0, 0, [], [])), (16, (.aload_n 0, 17, 0, 0, 0, [], [])), (17, (.getfield 64, 20, 0, 0, 0, [], [])), (20, (.aload_n 0, 21, 0, 0, 0, [], [])), (21, (.getfield 405, 24, 0, 0, 0, [], [])), (24, (.iload_n 1, 25, 0, 0, 0, [], [])), (25, (.iastore, 26, 0, 0, 0, [], [])), (26, (.aload_n 0, 27, 0, 0, 0, [], [])), (27, (.dup, 28, 0, 0, 0, [], [])), (28, (.getfield 405, 31, 0, 0, 0, [], [])), (31, (.iconst 1, 32, 0, 1, 0, [], []))],
  [(32, (.iadd, 33, 0, 0, 0, [], [])), (33, (.putfield 405, 36, 0, 0, 0, [], [])), (36, (.return_, 37, 0, 0, 0, [], []))]]
noncomputable abbrev zT_259 : zT := (12, zI_259, 0, 2) -- X12_runs
noncomputable def zI_260 : List (List (Nat × zE)) := [[(0, (.aload_n 0, 1, 0, 0, 0, [], [])), (1, (.getfield 408, 4, 0, 0, 0, [], [])), (4, (.iconst 1, 5, 0, 1, 0, [], [])), (5, (.if_icmp .ne 24, 8, 29, 0, 0, [], [])), (8, (.aload_n 0, 9, 0, 0, 0, [], [])), (9, (.bipush 20, 11, 0, 20, 0, [], [])), (11, (.invokevirtual 411, 14, 0, 0, 0, [], [])), (14, (.aload_n 0, 15, 0, 0, 0, [], [])), (15, (.bipush 10, 17, 0, 10, 0, [], [])), (17, (.invokevirtual 411, 20, 0, 0, 0, [], [])), (20, (.iload_n 1, 21, 0, 0, 0, [], [])), (21, (.aload_n 0, 22, 0, 0, 0, [], [])), (22, (.getfield 414, 25, 0, 0, 0, [], [])), (25, (.iadd, 26, 0, 0, 0, [], [])), (26, (.iconst 3, 27, 0, 3, 0, [], [])), (27, (.imul, 28, 0, 0, 0, [], [])), (28, (.ireturn, 29, 0, 0, 0, [], [])), (29, (.aload_n 0, 30, 0, 0, 0, [], [])), (30, (.getfield 408, 33, 0, 0, 0, [], []))],
  [(33, (.iconst 3, 34, 0, 3, 0, [], [])), (34, (.if_icmp .ne 27, 37, 61, 0, 0, [], [])), (37, (.aload_n 0, 38, 0, 0, 0, [], [])), (38, (.bipush 50, 40, 0, 50, 0, [], [])), (40, (.invokevirtual 411, 43, 0, 0, 0, [], [])), (43, (.aload_n 0, 44, 0, 0, 0, [], [])), (44, (.bipush 10, 46, 0, 10, 0, [], [])), (46, (.invokevirtual 411, 49, 0, 0, 0, [], [])), (49, (.iload_n 1, 50, 0, 0, 0, [], [])), (50, (.aload_n 0, 51, 0, 0, 0, [], [])), (51, (.getfield 414, 54, 0, 0, 0, [], [])), (54, (.iadd, 55, 0, 0, 0, [], [])), (55, (.aload_n 0, 56, 0, 0, 0, [], [])), (56, (.getfield 414, 59, 0, 0, 0, [], [])), (59, (.ixor, 60, 0, 0, 0, [], [])), (60, (.ireturn, 61, 0, 0, 0, [], [])), (61, (.aload_n 0, 62, 0, 0, 0, [], [])), (62, (.bipush 10, 64, 0, 10, 0, [], []))],
  [(64, (.invokevirtual 411, 67, 0, 0, 0, [], [])), (67, (.iload_n 1, 68, 0, 0, 0, [], [])), (68, (.aload_n 0, 69, 0, 0, 0, [], [])), (69, (.getfield 414, 72, 0, 0, 0, [], [])), (72, (.iadd, 73, 0, 0, 0, [], [])), (73, (.ireturn, 74, 0, 0, 0, [], []))]]
noncomputable abbrev zT_260 : zT := (12, zI_260, 1, 2) -- X12_sways
noncomputable def zI_261 : List (List (Nat × zE)) := [[(0, (.aload_n 0, 1, 0, 0, 0, [], [])), (1, (.getfield 408, 4, 0, 0, 0, [], [])), (4, (.iconst 2, 5, 0, 2, 0, [], [])), (5, (.if_icmp .eq 11, 8, 16, 0, 0, [], [])), (8, (.aload_n 0, 9, 0, 0, 0, [], [])), (9, (.getfield 408, 12, 0, 0, 0, [], [])), (12, (.iconst 3, 13, 0, 3, 0, [], [])), (13, (.if_icmp .ne 7, 16, 20, 0, 0, [], [])), (16, (.iconst 1, 17, 0, 1, 0, [], [true, true, false, false])), (17, (.goto 4, 20, 21, 0, 0, [], [])), (20, (.iconst 0, 21, 0, 0, 0, [], [])), (21, (.istore_n 2, 22, 0, 0, 0, [], [true, true, false, false])), (22, (.iload_n 2, 23, 0, 0, 0, [], [])), (23, (.ifCond .eq 9, 26, 32, 0, 0, [], [])), (26, (.aload_n 0, 27, 0, 0, 0, [], [])), (27, (.bipush 30, 29, 0, 30, 0, [], [])), (29, (.invokevirtual 411, 32, 0, 0, 0, [], []))],
  [(32, (.aload_n 0, 33, 0, 0, 0, [], [true, true, true, false])), (33, (.getfield 408, 36, 0, 0, 0, [], [])), (36, (.iconst 5, 37, 0, 5, 0, [], [])), (37, (.if_icmp .ne 9, 40, 46, 0, 0, [], [])), (40, (.aload_n 0, 41, 0, 0, 0, [], [])), (41, (.bipush 60, 43, 0, 60, 0, [], [])), (43, (.invokevirtual 411, 46, 0, 0, 0, [], [])), (46, (.aload_n 0, 47, 0, 0, 0, [], [true, true, true, false])), (47, (.bipush 11, 49, 0, 11, 0, [], [])), (49, (.invokevirtual 411, 52, 0, 0, 0, [], [])), (52, (.aload_n 0, 53, 0, 0, 0, [], [])), (53, (.iload_n 1, 54, 0, 0, 0, [], [])), (54, (.invokevirtual 417, 57, 0, 0, 0, [], [])), (57, (.iconst 2, 58, 0, 2, 0, [], [])), (58, (.imul, 59, 0, 0, 0, [], [])), (59, (.istore_n 3, 60, 0, 0, 0, [], [])), (60, (.iload_n 2, 61, 0, 0, 0, [], [])), (61, (.ifCond .eq 12, 64, 73, 0, 0, [], []))],
  [(64, (.iload_n 3, 65, 0, 0, 0, [], [])), (65, (.aload_n 0, 66, 0, 0, 0, [], [])), (66, (.getfield 420, 69, 0, 0, 0, [], [])), (69, (.isub, 70, 0, 0, 0, [], [])), (70, (.goto 18, 73, 88, 0, 0, [], [])), (73, (.aload_n 0, 74, 0, 0, 0, [], [])), (74, (.getfield 408, 77, 0, 0, 0, [], [])), (77, (.iconst 5, 78, 0, 5, 0, [], [])), (78, (.if_icmp .ne 9, 81, 87, 0, 0, [], [])), (81, (.iconst 0, 82, 0, 0, 0, [], [])), (82, (.iload_n 3, 83, 0, 0, 0, [], [])), (83, (.isub, 84, 0, 0, 0, [], [])), (84, (.goto 4, 87, 88, 0, 0, [], [])), (87, (.iload_n 3, 88, 0, 0, 0, [], [])), (88, (.ireturn, 89, 0, 0, 0, [], []))]]
noncomputable abbrev zT_261 : zT := (12, zI_261, 1, 4) -- X12_bends
noncomputable def zI_262 : List (List (Nat × zE)) := [[(0, (.aload_n 0, 1, 0, 0, 0, [], [])), (1, (.bipush 12, 3, 0, 12, 0, [], [])), (3, (.invokevirtual 411, 6, 0, 0, 0, [], [])), (6, (.aload_n 0, 7, 0, 0, 0, [], [])), (7, (.getfield 420, 10, 0, 0, 0, [], [])), (10, (.aload_n 0, 11, 0, 0, 0, [], [])), (11, (.getfield 414, 14, 0, 0, 0, [], [])), (14, (.if_icmp .ne 10, 17, 24, 0, 0, [], [])), (17, (.aload_n 0, 18, 0, 0, 0, [], [])), (18, (.iconst 1, 19, 0, 1, 0, [], [])), (19, (.putfield 402, 22, 0, 0, 0, [], [])), (22, (.iconst 0, 23, 0, 0, 0, [], [])), (23, (.ireturn, 24, 0, 0, 0, [], [])), (24, (.iload_n 1, 25, 0, 0, 0, [], [])), (25, (.aload_n 0, 26, 0, 0, 0, [], [])), (26, (.getfield 420, 29, 0, 0, 0, [], [])), (29, (.aload_n 0, 30, 0, 0, 0, [], [])), (30, (.getfield 414, 33, 0, 0, 0, [], []))],
  [(33, (.isub, 34, 0, 0, 0, [], [])), (34, (.idiv, 35, 0, 0, 0, [], [])), (35, (.ireturn, 36, 0, 0, 0, [], []))]]
noncomputable abbrev zT_262 : zT := (12, zI_262, 1, 2) -- X12_parts
noncomputable def zI_263 : List (List (Nat × zE)) := [[(0, (.aload_n 0, 1, 0, 0, 0, [], [])), (1, (.getfield 408, 4, 0, 0, 0, [], [])), (4, (.iconst 4, 5, 0, 4, 0, [], [])), (5, (.if_icmp .ne 17, 8, 22, 0, 0, [], [])), (8, (.aload_n 0, 9, 0, 0, 0, [], [])), (9, (.bipush 40, 11, 0, 40, 0, [], [])), (11, (.invokevirtual 411, 14, 0, 0, 0, [], [])), (14, (.aload_n 0, 15, 0, 0, 0, [], [])), (15, (.iload_n 1, 16, 0, 0, 0, [], [])), (16, (.iconst 1, 17, 0, 1, 0, [], [])), (17, (.iadd, 18, 0, 0, 0, [], [])), (18, (.invokevirtual 423, 21, 0, 0, 0, [], [])), (21, (.ireturn, 22, 0, 0, 0, [], [])), (22, (.aload_n 0, 23, 0, 0, 0, [], [])), (23, (.getfield 408, 26, 0, 0, 0, [], [])), (26, (.iconst 5, 27, 0, 5, 0, [], [])), (27, (.if_icmp .ne 45, 30, 72, 0, 0, [], [])), (30, (.aload_n 0, 31, 0, 0, 0, [], [])), (31, (.bipush 61, 33, 0, 61, 0, [], []))],
  [(33, (.invokevirtual 411, 36, 0, 0, 0, [], [])), (36, (.aload_n 0, 37, 0, 0, 0, [], [])), (37, (.bipush 40, 39, 0, 40, 0, [], [])), (39, (.invokevirtual 411, 42, 0, 0, 0, [], [])), (42, (.aload_n 0, 43, 0, 0, 0, [], [])), (43, (.iload_n 1, 44, 0, 0, 0, [], [])), (44, (.iconst 1, 45, 0, 1, 0, [], [])), (45, (.iadd, 46, 0, 0, 0, [], [])), (46, (.invokevirtual 423, 49, 0, 0, 0, [], [])), (49, (.istore_n 2, 50, 0, 0, 0, [], [])), (50, (.aload_n 0, 51, 0, 0, 0, [], [])), (51, (.getfield 402, 54, 0, 0, 0, [], [])), (54, (.ifCond .eq 7, 57, 61, 0, 0, [], [])), (57, (.iconst 0, 58, 0, 0, 0, [], [])), (58, (.goto 13, 61, 71, 0, 0, [], [])), (61, (.iload_n 2, 62, 0, 0, 0, [], [])), (62, (.aload_n 0, 63, 0, 0, 0, [], [])), (63, (.aload_n 0, 64, 0, 0, 0, [], []))],
  [(64, (.getfield 420, 67, 0, 0, 0, [], [])), (67, (.invokevirtual 417, 70, 0, 0, 0, [], [])), (70, (.iadd, 71, 0, 0, 0, [], [])), (71, (.ireturn, 72, 0, 0, 0, [], [])), (72, (.aload_n 0, 73, 0, 0, 0, [], [])), (73, (.iload_n 1, 74, 0, 0, 0, [], [])), (74, (.invokevirtual 423, 77, 0, 0, 0, [], [])), (77, (.ireturn, 78, 0, 0, 0, [], []))]]
noncomputable abbrev zT_263 : zT := (12, zI_263, 1, 3) -- X12_shares
noncomputable def zI_264 : List (List (Nat × zE)) := [[(0, (.aload_n 0, 1, 0, 0, 0, [], [])), (1, (.getfield 408, 4, 0, 0, 0, [], [])), (4, (.iconst 3, 5, 0, 3, 0, [], [])), (5, (.if_icmp .ne 9, 8, 14, 0, 0, [], [])), (8, (.aload_n 0, 9, 0, 0, 0, [], [])), (9, (.bipush 51, 11, 0, 51, 0, [], [])), (11, (.invokevirtual 411, 14, 0, 0, 0, [], [])), (14, (.aload_n 0, 15, 0, 0, 0, [], [true, true, false])), (15, (.bipush 13, 17, 0, 13, 0, [], [])), (17, (.invokevirtual 411, 20, 0, 0, 0, [], [])), (20, (.aload_n 0, 21, 0, 0, 0, [], [])), (21, (.iload_n 1, 22, 0, 0, 0, [], [])), (22, (.invokevirtual 426, 25, 0, 0, 0, [], [])), (25, (.aload_n 0, 26, 0, 0, 0, [], [])), (26, (.getfield 420, 29, 0, 0, 0, [], [])), (29, (.ixor, 30, 0, 0, 0, [], [])), (30, (.istore_n 2, 31, 0, 0, 0, [], [])), (31, (.aload_n 0, 32, 0, 0, 0, [], []))],
  [(32, (.getfield 408, 35, 0, 0, 0, [], [])), (35, (.iconst 3, 36, 0, 3, 0, [], [])), (36, (.if_icmp .ne 16, 39, 52, 0, 0, [], [])), (39, (.iload_n 2, 40, 0, 0, 0, [], [])), (40, (.aload_n 0, 41, 0, 0, 0, [], [])), (41, (.aload_n 0, 42, 0, 0, 0, [], [])), (42, (.getfield 414, 45, 0, 0, 0, [], [])), (45, (.invokevirtual 429, 48, 0, 0, 0, [], [])), (48, (.iadd, 49, 0, 0, 0, [], [])), (49, (.goto 4, 52, 53, 0, 0, [], [])), (52, (.iload_n 2, 53, 0, 0, 0, [], [])), (53, (.ireturn, 54, 0, 0, 0, [], []))]]
noncomputable abbrev zT_264 : zT := (12, zI_264, 1, 3) -- X12_tells
noncomputable def zI_265 : List (List (Nat × zE)) := [[(0, (.aload_n 0, 1, 0, 0, 0, [], [])), (1, (.iconst 0, 2, 0, 0, 0, [], [])), (2, (.putfield 405, 5, 0, 0, 0, [], [])), (5, (.aload_n 0, 6, 0, 0, 0, [], [])), (6, (.iconst 0, 7, 0, 0, 0, [], [])), (7, (.putfield 402, 10, 0, 0, 0, [], [])), (10, (.aload_n 0, 11, 0, 0, 0, [], [])), (11, (.aload_n 0, 12, 0, 0, 0, [], [])), (12, (.iload_n 1, 13, 0, 0, 0, [], [])), (13, (.invokevirtual 399, 16, 0, 0, 0, [], [])), (16, (.putfield 414, 19, 0, 0, 0, [], [])), (19, (.aload_n 0, 20, 0, 0, 0, [], [])), (20, (.getfield 414, 23, 0, 0, 0, [], [])), (23, (.ifCond .lt 15, 26, 38, 0, 0, [], [])), (26, (.iload_n 2, 27, 0, 0, 0, [], [])), (27, (.i2l, 28, 0, 0, 0, [], [])), (28, (.lconst 0, 29, 0, 0, 0, [], [])), (29, (.ldc2_w 204, 32, 0, 0, 3, [], []))],
  [(32, (.invokestatic 67, 35, 0, 0, 0, [], [])), (35, (.ifCond .ne 5, 38, 40, 0, 0, [], [])), (38, (.iconst 0, 39, 0, 0, 0, [], [])), (39, (.ireturn, 40, 0, 0, 0, [], [])), (40, (.aload_n 0, 41, 0, 0, 0, [], [])), (41, (.aload_n 0, 42, 0, 0, 0, [], [])), (42, (.aload_n 0, 43, 0, 0, 0, [], [])), (43, (.getfield 414, 46, 0, 0, 0, [], [])), (46, (.iconst 2, 47, 0, 2, 0, [], [])), (47, (.invokevirtual 75, 50, 0, 0, 0, [], [])), (50, (.putfield 420, 53, 0, 0, 0, [], [])), (53, (.aload_n 0, 54, 0, 0, 0, [], [])), (54, (.aload_n 0, 55, 0, 0, 0, [], [])), (55, (.aload_n 0, 56, 0, 0, 0, [], [])), (56, (.getfield 414, 59, 0, 0, 0, [], [])), (59, (.iconst 0, 60, 0, 0, 0, [], [])), (60, (.invokevirtual 75, 63, 0, 0, 0, [], [])), (63, (.putfield 408, 66, 0, 0, 0, [], []))],
  [(66, (.iload_n 2, 67, 0, 0, 0, [], [])), (67, (.ifCond .ne 11, 70, 78, 0, 0, [], [])), (70, (.aload_n 0, 71, 0, 0, 0, [], [])), (71, (.iload_n 3, 72, 0, 0, 0, [], [])), (72, (.invokevirtual 417, 75, 0, 0, 0, [], [])), (75, (.goto 34, 78, 109, 0, 0, [], [])), (78, (.iload_n 2, 79, 0, 0, 0, [], [])), (79, (.iconst 1, 80, 0, 1, 0, [], [])), (80, (.if_icmp .ne 11, 83, 91, 0, 0, [], [])), (83, (.aload_n 0, 84, 0, 0, 0, [], [])), (84, (.iload_n 3, 85, 0, 0, 0, [], [])), (85, (.invokevirtual 426, 88, 0, 0, 0, [], [])), (88, (.goto 21, 91, 109, 0, 0, [], [])), (91, (.iload_n 2, 92, 0, 0, 0, [], [])), (92, (.iconst 2, 93, 0, 2, 0, [], [])), (93, (.if_icmp .ne 11, 96, 104, 0, 0, [], []))],
  [(96, (.aload_n 0, 97, 0, 0, 0, [], [])), (97, (.iload_n 3, 98, 0, 0, 0, [], [])), (98, (.invokevirtual 429, 101, 0, 0, 0, [], [])), (101, (.goto 8, 104, 109, 0, 0, [], [])), (104, (.aload_n 0, 105, 0, 0, 0, [], [])), (105, (.iload_n 3, 106, 0, 0, 0, [], [])), (106, (.invokevirtual 432, 109, 0, 0, 0, [], [])), (109, (.istore 4, 111, 0, 0, 0, [], [])), (111, (.aload_n 0, 112, 0, 0, 0, [], [])), (112, (.getfield 402, 115, 0, 0, 0, [], [])), (115, (.ifCond .eq 8, 118, 123, 0, 0, [], [])), (118, (.bipush (-15), 120, 0, (-15), 0, [], [])), (120, (.goto 5, 123, 125, 0, 0, [], [])), (123, (.iload 4, 125, 0, 0, 0, [], [])), (125, (.ireturn, 126, 0, 0, 0, [], []))]]
noncomputable abbrev zT_265 : zT := (12, zI_265, 1, 5) -- X12_act
noncomputable def zI_266 : List (List (Nat × zE)) := [[(0, (.aload_n 0, 1, 0, 0, 0, [], [])), (1, (.getfield 405, 4, 0, 0, 0, [], [])), (4, (.bipush 30, 6, 0, 30, 0, [], [])), (6, (.if_icmp .ge 10, 9, 16, 0, 0, [], [])), (9, (.aload_n 0, 10, 0, 0, 0, [], [])), (10, (.getfield 405, 13, 0, 0, 0, [], [])), (13, (.goto 5, 16, 18, 0, 0, [], [])), (16, (.bipush 30, 18, 0, 30, 0, [], [])), (18, (.ireturn, 19, 0, 0, 0, [], []))]]
noncomputable abbrev zT_266 : zT := (12, zI_266, 1, 1) -- X12_traced
noncomputable def zI_267 : List (List (Nat × zE)) := [[(0, (.iload_n 1, 1, 0, 0, 0, [], [])), (1, (.i2l, 2, 0, 0, 0, [], [])), (2, (.lconst 0, 3, 0, 0, 0, [], [])), (3, (.aload_n 0, 4, 0, 0, 0, [], [])), (4, (.invokevirtual 435, 7, 0, 0, 0, [], [])), (7, (.iconst 1, 8, 0, 1, 0, [], [])), (8, (.isub, 9, 0, 0, 0, [], [])), (9, (.i2l, 10, 0, 0, 0, [], [])), (10, (.invokestatic 67, 13, 0, 0, 0, [], [])), (13, (.ifCond .eq 12, 16, 25, 0, 0, [], [])), (16, (.aload_n 0, 17, 0, 0, 0, [], [])), (17, (.getfield 64, 20, 0, 0, 0, [], [])), (20, (.iload_n 1, 21, 0, 0, 0, [], [])), (21, (.iaload, 22, 0, 0, 0, [], [])), (22, (.goto 5, 25, 27, 0, 0, [], [])), (25, (.bipush (-3), 27, 0, (-3), 0, [], [])), (27, (.ireturn, 28, 0, 0, 0, [], []))]]
noncomputable abbrev zT_267 : zT := (12, zI_267, 1, 2) -- X12_trace
noncomputable def zI_268 : List (List (Nat × zE)) := [[(0, (.iload_n 1, 1, 0, 0, 0, [], [])), (1, (.tableswitch 86 0 6 #[43, 50, 57, 64, 71, 76, 81], 44, 87, 0, 0, [(0, 44), (1, 51), (2, 58), (3, 65), (4, 72), (5, 77), (6, 82)], []))],
  [(44, (.aload_n 0, 45, 0, 0, 0, [], [])), (45, (.getfield 7, 48, 0, 0, 0, [], [])), (48, (.iconst 0, 49, 0, 0, 0, [], [])), (49, (.iaload, 50, 1, 0, 0, [], [])), (50, (.ireturn, 51, 0, 0, 0, [], [])), (51, (.aload_n 0, 52, 0, 0, 0, [], [])), (52, (.getfield 7, 55, 0, 0, 0, [], [])), (55, (.iconst 1, 56, 0, 1, 0, [], [])), (56, (.iaload, 57, 2, 0, 0, [], [])), (57, (.ireturn, 58, 0, 0, 0, [], [])), (58, (.aload_n 0, 59, 0, 0, 0, [], [])), (59, (.getfield 7, 62, 0, 0, 0, [], [])), (62, (.iconst 2, 63, 0, 2, 0, [], [])), (63, (.iaload, 64, 3, 0, 0, [], []))],
  [(64, (.ireturn, 65, 0, 0, 0, [], [])), (65, (.aload_n 0, 66, 0, 0, 0, [], [])), (66, (.getfield 7, 69, 0, 0, 0, [], [])), (69, (.iconst 3, 70, 0, 3, 0, [], [])), (70, (.iaload, 71, 4, 0, 0, [], [])), (71, (.ireturn, 72, 0, 0, 0, [], [])), (72, (.aload_n 0, 73, 0, 0, 0, [], [])), (73, (.getfield 249, 76, 0, 0, 0, [], [])), (76, (.ireturn, 77, 0, 0, 0, [], [])), (77, (.aload_n 0, 78, 0, 0, 0, [], [])), (78, (.getfield 257, 81, 0, 0, 0, [], [])), (81, (.ireturn, 82, 0, 0, 0, [], [])), (82, (.aload_n 0, 83, 0, 0, 0, [], [])), (83, (.invokevirtual 435, 86, 0, 0, 0, [], [])), (86, (.ireturn, 87, 0, 0, 0, [], [])), (87, (.iconst (-1), 88, 0, (-1), 0, [], [])), (88, (.ireturn, 89, 0, 0, 0, [], []))]]
noncomputable abbrev zT_268 : zT := (12, zI_268, 1, 2) -- X12_many
noncomputable def zI_269 : List (List (Nat × zE)) := [[(0, (.iconst 0, 1, 0, 0, 0, [], [])), (1, (.istore_n 1, 2, 0, 0, 0, [], [])), (2, (.iload_n 1, 3, 0, 0, 0, [], [true, true])), (3, (.sipush 320, 6, 0, 320, 0, [], [])), (6, (.if_icmp .ge 21, 9, 27, 0, 0, [], [])), (9, (.aload_n 0, 10, 0, 0, 0, [], [])), (10, (.getfield 13, 13, 0, 0, 0, [], [])), (13, (.iload_n 1, 14, 0, 0, 0, [], [])), (14, (.aload_n 0, 15, 0, 0, 0, [], [])), (15, (.getfield 7, 18, 0, 0, 0, [], [])), (18, (.iload_n 1, 19, 0, 0, 0, [], [])), (19, (.iaload, 20, 0, 0, 0, [], [])), (20, (.iastore, 21, 0, 0, 0, [], [])), (21, (.iinc 1 1, 24, 0, 1, 0, [], [])), (24, (.goto (-22), 27, 2, 0, 0, [], [])), (27, (.aload_n 0, 28, 0, 0, 0, [], [])), (28, (.iconst 1, 29, 0, 1, 0, [], [])), (29, (.putfield 438, 32, 0, 0, 0, [], []))],
  [(32, (.iconst 1, 33, 0, 1, 0, [], [])), (33, (.ireturn, 34, 0, 0, 0, [], []))]]
noncomputable abbrev zT_269 : zT := (12, zI_269, 1, 2) -- X12_keep
noncomputable def zI_270 : List (List (Nat × zE)) := [[(0, (.aload_n 0, 1, 0, 0, 0, [], [])), (1, (.getfield 438, 4, 0, 0, 0, [], [])), (4, (.ifCond .ne 6, 7, 10, 0, 0, [], [])), (7, (.bipush (-3), 9, 0, (-3), 0, [], [])), (9, (.ireturn, 10, 0, 0, 0, [], [])), (10, (.iconst 0, 11, 0, 0, 0, [], [])), (11, (.istore_n 1, 12, 0, 0, 0, [], [])), (12, (.iload_n 1, 13, 0, 0, 0, [], [true, true])), (13, (.sipush 320, 16, 0, 320, 0, [], [])), (16, (.if_icmp .ge 21, 19, 37, 0, 0, [], [])), (19, (.aload_n 0, 20, 0, 0, 0, [], [])), (20, (.getfield 7, 23, 0, 0, 0, [], [])), (23, (.iload_n 1, 24, 0, 0, 0, [], [])), (24, (.aload_n 0, 25, 0, 0, 0, [], [])), (25, (.getfield 13, 28, 0, 0, 0, [], [])), (28, (.iload_n 1, 29, 0, 0, 0, [], [])), (29, (.iaload, 30, 0, 0, 0, [], [])), (30, (.iastore, 31, 0, 0, 0, [], [])), (31, (.iinc 1 1, 34, 0, 1, 0, [], []))],
  [(34, (.goto (-22), 37, 12, 0, 0, [], [])), (37, (.aload_n 0, 38, 0, 0, 0, [], [])), (38, (.getfield 7, 41, 0, 0, 0, [], [])), (41, (.iconst 0, 42, 0, 0, 0, [], [])), (42, (.iaload, 43, 1, 0, 0, [], [])), (43, (.ireturn, 44, 0, 0, 0, [], []))]]
noncomputable abbrev zT_270 : zT := (12, zI_270, 1, 2) -- X12_again
noncomputable def zI_271 : List (List (Nat × zE)) := [[(0, (.iload_n 0, 1, 0, 0, 0, [], [])), (1, (.iload_n 0, 2, 0, 0, 0, [], [])), (2, (.iconst 1, 3, 0, 1, 0, [], [])), (3, (.iushr, 4, 0, 0, 0, [], [])), (4, (.ldc_w 265, 7, 0, 1431655765, 0, [], [])), (7, (.iand, 8, 0, 0, 0, [], [])), (8, (.isub, 9, 0, 0, 0, [], [])), (9, (.istore_n 0, 10, 0, 0, 0, [], [])), (10, (.iload_n 0, 11, 0, 0, 0, [], [])), (11, (.ldc_w 266, 14, 0, 858993459, 0, [], [])), (14, (.iand, 15, 0, 0, 0, [], [])), (15, (.iload_n 0, 16, 0, 0, 0, [], [])), (16, (.iconst 2, 17, 0, 2, 0, [], [])), (17, (.iushr, 18, 0, 0, 0, [], [])), (18, (.ldc_w 266, 21, 0, 858993459, 0, [], [])), (21, (.iand, 22, 0, 0, 0, [], [])), (22, (.iadd, 23, 0, 0, 0, [], [])), (23, (.istore_n 0, 24, 0, 0, 0, [], [])), (24, (.iload_n 0, 25, 0, 0, 0, [], [])), (25, (.iload_n 0, 26, 0, 0, 0, [], [])), (26, (.iconst 4, 27, 0, 4, 0, [], [])), (27, (.iushr, 28, 0, 0, 0, [], [])), (28, (.iadd, 29, 0, 0, 0, [], [])), (29, (.ldc_w 267, 32, 0, 252645135, 0, [], []))],
  [(32, (.iand, 33, 0, 0, 0, [], [])), (33, (.istore_n 0, 34, 0, 0, 0, [], [])), (34, (.iload_n 0, 35, 0, 0, 0, [], [])), (35, (.iload_n 0, 36, 0, 0, 0, [], [])), (36, (.bipush 8, 38, 0, 8, 0, [], [])), (38, (.iushr, 39, 0, 0, 0, [], [])), (39, (.iadd, 40, 0, 0, 0, [], [])), (40, (.istore_n 0, 41, 0, 0, 0, [], [])), (41, (.iload_n 0, 42, 0, 0, 0, [], [])), (42, (.iload_n 0, 43, 0, 0, 0, [], [])), (43, (.bipush 16, 45, 0, 16, 0, [], [])), (45, (.iushr, 46, 0, 0, 0, [], [])), (46, (.iadd, 47, 0, 0, 0, [], [])), (47, (.istore_n 0, 48, 0, 0, 0, [], [])), (48, (.iload_n 0, 49, 0, 0, 0, [], [])), (49, (.bipush 63, 51, 0, 63, 0, [], [])), (51, (.iand, 52, 0, 0, 0, [], [])), (52, (.ireturn, 53, 0, 0, 0, [], []))]]
noncomputable abbrev zT_271 : zT := (13, zI_271, 1, 1) -- J6_bitCount_0f7a4
noncomputable def zI_272 : List (List (Nat × zE)) := [[(0, (.iload_n 0, 1, 0, 0, 0, [], [])), (1, (.iload_n 1, 2, 0, 0, 0, [], [])), (2, (.if_icmp .lt 7, 5, 9, 0, 0, [], [])), (5, (.iload_n 0, 6, 0, 0, 0, [], [])), (6, (.goto 4, 9, 10, 0, 0, [], [])), (9, (.iload_n 1, 10, 0, 0, 0, [], [])), (10, (.ireturn, 11, 0, 0, 0, [], []))]]
noncomputable abbrev zT_272 : zT := (14, zI_272, 1, 2) -- J9_max_7cf53
noncomputable def zI_273 : List (List (Nat × zE)) := [[(0, (.iload_n 0, 1, 0, 0, 0, [], [])), (1, (.iload_n 1, 2, 0, 0, 0, [], [])), (2, (.if_icmp .gt 7, 5, 9, 0, 0, [], [])), (5, (.iload_n 0, 6, 0, 0, 0, [], [])), (6, (.goto 4, 9, 10, 0, 0, [], [])), (9, (.iload_n 1, 10, 0, 0, 0, [], [])), (10, (.ireturn, 11, 0, 0, 0, [], []))]]
noncomputable abbrev zT_273 : zT := (14, zI_273, 1, 2) -- J9_min_7cf53
noncomputable def zI_274 : List (List (Nat × zE)) := [[(0, (.aload_n 0, 1, 0, 0, 0, [], [])), (1, (.getfield 9, 4, 0, 0, 0, [], [])), (4, (.arraylength, 5, 0, 0, 0, [], [])), (5, (.aload_n 0, 6, 0, 0, 0, [], [])), (6, (.invokevirtual 335, 9, 0, 0, 0, [], [])), (9, (.ishr, 10, 0, 0, 0, [], [])), (10, (.ireturn, 11, 0, 0, 0, [], []))]]
noncomputable abbrev zT_274 : zT := (16, zI_274, 1, 1) -- J0_length_8abf5
noncomputable def zI_275 : List (List (Nat × zE)) := [[(0, (.aload_n 0, 1, 0, 0, 0, [], [])), (1, (.invokevirtual 492, 4, 0, 0, 0, [], [])), (4, (.ifCond .eq 12, 7, 16, 0, 0, [], [])), (7, (.aload_n 0, 8, 0, 0, 0, [], [])), (8, (.getfield 9, 11, 0, 0, 0, [], [])), (11, (.iload_n 1, 12, 0, 0, 0, [], [])), (12, (.invokestatic 495, 15, 0, 0, 0, [], [])), (15, (.ireturn, 16, 0, 0, 0, [], [])), (16, (.aload_n 0, 17, 0, 0, 0, [], [])), (17, (.getfield 9, 20, 0, 0, 0, [], [])), (20, (.iload_n 1, 21, 0, 0, 0, [], [])), (21, (.invokestatic 498, 24, 0, 0, 0, [], [])), (24, (.ireturn, 25, 0, 0, 0, [], []))]]
noncomputable abbrev zT_275 : zT := (16, zI_275, 4, 2) -- J0_charAt_5068e
noncomputable def zI_276 : List (List (Nat × zE)) := [[(0, (.getstatic 38, 3, 0, 0, 0, [], [])), (3, (.ifCond .eq 10, 6, 13, 0, 0, [], [])), (6, (.aload_n 0, 7, 0, 0, 0, [], [])), (7, (.getfield 15, 10, 0, 0, 0, [], [])), (10, (.goto 4, 13, 14, 0, 0, [], [])), (13, (.iconst 1, 14, 0, 1, 0, [], [])), (14, (.ireturn, 15, 0, 0, 0, [], []))]]
noncomputable abbrev zT_276 : zT := (16, zI_276, 5, 1) -- J0_coder_7d493
noncomputable def zI_277 : List (List (Nat × zE)) := [[(0, (.getstatic 38, 3, 0, 0, 0, [], [])), (3, (.ifCond .eq 14, 6, 17, 0, 0, [], [])), (6, (.aload_n 0, 7, 0, 0, 0, [], [])), (7, (.getfield 15, 10, 0, 0, 0, [], [])), (10, (.ifCond .ne 7, 13, 17, 0, 0, [], [])), (13, (.iconst 1, 14, 0, 1, 0, [], [])), (14, (.goto 4, 17, 18, 0, 0, [], [])), (17, (.iconst 0, 18, 0, 0, 0, [], [])), (18, (.ireturn, 19, 0, 0, 0, [], []))]]
noncomputable abbrev zT_277 : zT := (16, zI_277, 3, 1) -- J0_isLatin1_aae02
noncomputable def zI_278 : List (List (Nat × zE)) := [[(0, (.iload_n 0, 1, 0, 0, 0, [], [])), (1, (.iload_n 1, 2, 0, 0, 0, [], [])), (2, (.getstatic 1053, 5, 0, 0, 0, [], [])), (5, (.invokestatic 1059, 8, 0, 0, 0, [], [])), (8, (.pop, 9, 0, 0, 0, [], [])), (9, (.return_, 10, 0, 0, 0, [], []))]]
noncomputable abbrev zT_278 : zT := (16, zI_278, 0, 2) -- J0_checkIndex_df160
noncomputable def zI_279 : List (List (Nat × zE)) := [[(0, (.iload_n 1, 1, 0, 0, 0, [], [])), (1, (.aload_n 0, 2, 0, 0, 0, [], [])), (2, (.arraylength, 3, 0, 0, 0, [], [])), (3, (.invokestatic 9, 6, 0, 0, 0, [], [])), (6, (.aload_n 0, 7, 0, 0, 0, [], [])), (7, (.iload_n 1, 8, 0, 0, 0, [], [])), (8, (.baload, 9, 0, 0, 0, [], [])), (9, (.sipush 255, 12, 0, 255, 0, [], [])), (12, (.iand, 13, 0, 0, 0, [], [])), (13, (.i2c, 14, 0, 0, 0, [], [])), (14, (.ireturn, 15, 0, 0, 0, [], []))]]
noncomputable abbrev zT_279 : zT := (17, zI_279, 4, 2) -- J1_charAt_3b067
noncomputable def zI_280 : List (List (Nat × zE)) := [[(0, (.iload_n 0, 1, 0, 0, 0, [], [])), (1, (.ifCond .lt 8, 4, 9, 0, 0, [], [])), (4, (.iload_n 0, 5, 0, 0, 0, [], [])), (5, (.iload_n 1, 6, 0, 0, 0, [], [])), (6, (.if_icmp .lt 10, 9, 16, 0, 0, [], [])), (9, (.aload_n 2, 10, 0, 0, 0, [], [])), (10, (.iload_n 0, 11, 0, 0, 0, [], [])), (11, (.iload_n 1, 12, 0, 0, 0, [], [])), (12, (.invokestatic 95, 15, 0, 0, 0, [], [])), (15, (.athrow, 16, 0, 0, 0, [], [])), (16, (.iload_n 0, 17, 0, 0, 0, [], [])), (17, (.ireturn, 18, 0, 0, 0, [], []))]]
noncomputable abbrev zT_280 : zT := (18, zI_280, 1, 3) -- J3_checkIndex_8e157
noncomputable def zI_281_0 : List (Nat × zE) := [(0, (.new 7, 3, 0, 0, 0, [], [])), (3, (.dup, 4, 0, 0, 0, [], [])), (4, (.invokespecial 9, 7, 0, 0, 0, [], [])), (7, (.astore_n 1, 8, 0, 0, 0, [], [])), (8, (.new 10, 11, 0, 0, 0, [], [])), (11, (.dup, 12, 0, 0, 0, [], [])), (12, (.invokespecial 12, 15, 0, 0, 0, [], [])), (15, (.astore_n 2, 16, 0, 0, 0, [], [])), (16, (.iconst 0, 17, 0, 0, 0, [], [])), (17, (.istore_n 3, 18, 0, 0, 0, [], [])), (18, (.iload_n 3, 19, 0, 0, 0, [], [true, true, true, true])), (19, (.aload_n 0, 20, 0, 0, 0, [], [])), (20, (.arraylength, 21, 0, 0, 0, [], [])), (21, (.iconst 5, 22, 0, 5, 0, [], [])), (22, (.isub, 23, 0, 0, 0, [], [])), (23, (.if_icmp .gt 1564, 26, 1587, 0, 0, [], [])), (26, (.aload_n 0, 27, 0, 0, 0, [], [])), (27, (.iload_n 3, 28, 0, 0, 0, [], [])), (28, (.iaload, 29, 0, 0, 0, [], [])), (29, (.bipush 63, 31, 0, 63, 0, [], [])), (31, (.iand, 32, 0, 0, 0, [], []))]
noncomputable def zI_281_1 : List (Nat × zE) := [(32, (.tableswitch 1549 0 48 #[212, 265, 298, 341, 374, 407, 470, 483, 516, 549, 582, 605, 618, 631, 644, 657, 680, 693, 716, 739, 762, 775, 788, 801, 834, 857, 890, 923, 956, 969, 992, 1005, 1028, 1041, 1064, 1087, 1120, 1163, 1176, 1219, 1262, 1305, 1358, 1401, 1434, 1477, 1500, 1523, 1536], 244, 1581, 0, 0, [(0, 244), (1, 297), (2, 330), (3, 373), (4, 406), (5, 439), (6, 502), (7, 515), (8, 548), (9, 581), (10, 614), (11, 637), (12, 650), (13, 663), (14, 676), (15, 689), (16, 712), (17, 725), (18, 748), (19, 771), (20, 794), (21, 807), (22, 820), (23, 833), (24, 866), (25, 889), (26, 922), (27, 955), (28, 988), (29, 1001), (30, 1024), (31, 1037), (32, 1060), (33, 1073), (34, 1096), (35, 1119), (36, 1152), (37, 1195), (38, 1208), (39, 1251), (40, 1294), (41, 1337), (42, 1390), (43, 1433), (44, 1466), (45, 1509), (46, 1532), (47, 1555), (48, 1568)], []))]
noncomputable def zI_281_2 : List (Nat × zE) := []
noncomputable def zI_281_3 : List (Nat × zE) := []
noncomputable def zI_281_4 : List (Nat × zE) := []
noncomputable def zI_281_5 : List (Nat × zE) := []
noncomputable def zI_281_6 : List (Nat × zE) := []
noncomputable def zI_281_7 : List (Nat × zE) := [(244, (.aload_n 1, 245, 0, 0, 0, [], [true, true, true, true])), (245, (.aload_n 0, 246, 0, 0, 0, [], [])), (246, (.iload_n 3, 247, 0, 0, 0, [], [])), (247, (.iconst 1, 248, 0, 1, 0, [], [])), (248, (.iadd, 249, 0, 0, 0, [], [])), (249, (.iaload, 250, 0, 0, 0, [], [])), (250, (.aload_n 0, 251, 0, 0, 0, [], [])), (251, (.iload_n 3, 252, 0, 0, 0, [], [])), (252, (.iconst 2, 253, 0, 2, 0, [], [])), (253, (.iadd, 254, 0, 0, 0, [], [])), (254, (.iaload, 255, 0, 0, 0, [], [])), (255, (.aload_n 0, 256, 0, 0, 0, [], []))]
noncomputable def zI_281_8 : List (Nat × zE) := [(256, (.iload_n 3, 257, 0, 0, 0, [], [])), (257, (.iconst 3, 258, 0, 3, 0, [], [])), (258, (.iadd, 259, 0, 0, 0, [], [])), (259, (.iaload, 260, 0, 0, 0, [], [])), (260, (.aload_n 0, 261, 0, 0, 0, [], [])), (261, (.iload_n 3, 262, 0, 0, 0, [], [])), (262, (.iconst 4, 263, 0, 4, 0, [], [])), (263, (.iadd, 264, 0, 0, 0, [], [])), (264, (.iaload, 265, 0, 0, 0, [], [])), (265, (.invokevirtual 13, 268, 0, 0, 0, [], [])), (268, (.aload_n 2, 269, 0, 0, 0, [], [])), (269, (.aload_n 0, 270, 0, 0, 0, [], [])), (270, (.iload_n 3, 271, 0, 0, 0, [], [])), (271, (.iconst 1, 272, 0, 1, 0, [], [])), (272, (.iadd, 273, 0, 0, 0, [], [])), (273, (.iaload, 274, 0, 0, 0, [], [])), (274, (.aload_n 0, 275, 0, 0, 0, [], [])), (275, (.iload_n 3, 276, 0, 0, 0, [], [])), (276, (.iconst 2, 277, 0, 2, 0, [], [])), (277, (.iadd, 278, 0, 0, 0, [], [])), (278, (.iaload, 279, 0, 0, 0, [], [])), (279, (.aload_n 0, 280, 0, 0, 0, [], [])), (280, (.iload_n 3, 281, 0, 0, 0, [], [])), (281, (.iconst 3, 282, 0, 3, 0, [], [])), (282, (.iadd, 283, 0, 0, 0, [], [])), (283, (.iaload, 284, 0, 0, 0, [], [])), (284, (.aload_n 0, 285, 0, 0, 0, [], [])), (285, (.iload_n 3, 286, 0, 0, 0, [], [])), (286, (.iconst 4, 287, 0, 4, 0, [], [])), (287, (.iadd, 288, 0, 0, 0, [], []))]
noncomputable def zI_281_9 : List (Nat × zE) := [(288, (.iaload, 289, 0, 0, 0, [], [])), (289, (.invokevirtual 17, 292, 0, 0, 0, [], [])), (292, (.if_icmp .eq 1289, 295, 1581, 0, 0, [], [])), (295, (.iconst 0, 296, 0, 0, 0, [], [])), (296, (.ireturn, 297, 0, 0, 0, [], [])), (297, (.aload_n 1, 298, 0, 0, 0, [], [true, true, true, true])), (298, (.aload_n 0, 299, 0, 0, 0, [], [])), (299, (.iload_n 3, 300, 0, 0, 0, [], [])), (300, (.iconst 1, 301, 0, 1, 0, [], [])), (301, (.iadd, 302, 0, 0, 0, [], [])), (302, (.iaload, 303, 0, 0, 0, [], [])), (303, (.aload_n 0, 304, 0, 0, 0, [], [])), (304, (.iload_n 3, 305, 0, 0, 0, [], [])), (305, (.iconst 2, 306, 0, 2, 0, [], [])), (306, (.iadd, 307, 0, 0, 0, [], [])), (307, (.iaload, 308, 0, 0, 0, [], [])), (308, (.invokevirtual 18, 311, 0, 0, 0, [], [])), (311, (.aload_n 2, 312, 0, 0, 0, [], [])), (312, (.aload_n 0, 313, 0, 0, 0, [], [])), (313, (.iload_n 3, 314, 0, 0, 0, [], [])), (314, (.iconst 1, 315, 0, 1, 0, [], [])), (315, (.iadd, 316, 0, 0, 0, [], [])), (316, (.iaload, 317, 0, 0, 0, [], [])), (317, (.aload_n 0, 318, 0, 0, 0, [], [])), (318, (.iload_n 3, 319, 0, 0, 0, [], [])), (319, (.iconst 2, 320, 0, 2, 0, [], []))]
noncomputable def zI_281_10 : List (Nat × zE) := [(320, (.iadd, 321, 0, 0, 0, [], [])), (321, (.iaload, 322, 0, 0, 0, [], [])), (322, (.invokevirtual 22, 325, 0, 0, 0, [], [])), (325, (.if_icmp .eq 1256, 328, 1581, 0, 0, [], [])), (328, (.iconst 0, 329, 0, 0, 0, [], [])), (329, (.ireturn, 330, 0, 0, 0, [], [])), (330, (.aload_n 1, 331, 0, 0, 0, [], [true, true, true, true])), (331, (.aload_n 0, 332, 0, 0, 0, [], [])), (332, (.iload_n 3, 333, 0, 0, 0, [], [])), (333, (.iconst 1, 334, 0, 1, 0, [], [])), (334, (.iadd, 335, 0, 0, 0, [], [])), (335, (.iaload, 336, 0, 0, 0, [], [])), (336, (.aload_n 0, 337, 0, 0, 0, [], [])), (337, (.iload_n 3, 338, 0, 0, 0, [], [])), (338, (.iconst 2, 339, 0, 2, 0, [], [])), (339, (.iadd, 340, 0, 0, 0, [], [])), (340, (.iaload, 341, 0, 0, 0, [], [])), (341, (.aload_n 0, 342, 0, 0, 0, [], [])), (342, (.iload_n 3, 343, 0, 0, 0, [], [])), (343, (.iconst 3, 344, 0, 3, 0, [], [])), (344, (.iadd, 345, 0, 0, 0, [], [])), (345, (.iaload, 346, 0, 0, 0, [], [])), (346, (.invokevirtual 23, 349, 0, 0, 0, [], [])), (349, (.aload_n 2, 350, 0, 0, 0, [], [])), (350, (.aload_n 0, 351, 0, 0, 0, [], [])), (351, (.iload_n 3, 352, 0, 0, 0, [], []))]
noncomputable def zI_281_11 : List (Nat × zE) := [(352, (.iconst 1, 353, 0, 1, 0, [], [])), (353, (.iadd, 354, 0, 0, 0, [], [])), (354, (.iaload, 355, 0, 0, 0, [], [])), (355, (.aload_n 0, 356, 0, 0, 0, [], [])), (356, (.iload_n 3, 357, 0, 0, 0, [], [])), (357, (.iconst 2, 358, 0, 2, 0, [], [])), (358, (.iadd, 359, 0, 0, 0, [], [])), (359, (.iaload, 360, 0, 0, 0, [], [])), (360, (.aload_n 0, 361, 0, 0, 0, [], [])), (361, (.iload_n 3, 362, 0, 0, 0, [], [])), (362, (.iconst 3, 363, 0, 3, 0, [], [])), (363, (.iadd, 364, 0, 0, 0, [], [])), (364, (.iaload, 365, 0, 0, 0, [], [])), (365, (.invokevirtual 27, 368, 0, 0, 0, [], [])), (368, (.if_icmp .eq 1213, 371, 1581, 0, 0, [], [])), (371, (.iconst 0, 372, 0, 0, 0, [], [])), (372, (.ireturn, 373, 0, 0, 0, [], [])), (373, (.aload_n 1, 374, 0, 0, 0, [], [true, true, true, true])), (374, (.aload_n 0, 375, 0, 0, 0, [], [])), (375, (.iload_n 3, 376, 0, 0, 0, [], [])), (376, (.iconst 1, 377, 0, 1, 0, [], [])), (377, (.iadd, 378, 0, 0, 0, [], [])), (378, (.iaload, 379, 0, 0, 0, [], [])), (379, (.aload_n 0, 380, 0, 0, 0, [], [])), (380, (.iload_n 3, 381, 0, 0, 0, [], [])), (381, (.iconst 2, 382, 0, 2, 0, [], [])), (382, (.iadd, 383, 0, 0, 0, [], [])), (383, (.iaload, 384, 0, 0, 0, [], []))]
noncomputable def zI_281_12 : List (Nat × zE) := [(384, (.invokevirtual 28, 387, 0, 0, 0, [], [])), (387, (.aload_n 2, 388, 0, 0, 0, [], [])), (388, (.aload_n 0, 389, 0, 0, 0, [], [])), (389, (.iload_n 3, 390, 0, 0, 0, [], [])), (390, (.iconst 1, 391, 0, 1, 0, [], [])), (391, (.iadd, 392, 0, 0, 0, [], [])), (392, (.iaload, 393, 0, 0, 0, [], [])), (393, (.aload_n 0, 394, 0, 0, 0, [], [])), (394, (.iload_n 3, 395, 0, 0, 0, [], [])), (395, (.iconst 2, 396, 0, 2, 0, [], [])), (396, (.iadd, 397, 0, 0, 0, [], [])), (397, (.iaload, 398, 0, 0, 0, [], [])), (398, (.invokevirtual 31, 401, 0, 0, 0, [], [])), (401, (.if_icmp .eq 1180, 404, 1581, 0, 0, [], [])), (404, (.iconst 0, 405, 0, 0, 0, [], [])), (405, (.ireturn, 406, 0, 0, 0, [], [])), (406, (.aload_n 1, 407, 0, 0, 0, [], [true, true, true, true])), (407, (.aload_n 0, 408, 0, 0, 0, [], [])), (408, (.iload_n 3, 409, 0, 0, 0, [], [])), (409, (.iconst 1, 410, 0, 1, 0, [], [])), (410, (.iadd, 411, 0, 0, 0, [], [])), (411, (.iaload, 412, 0, 0, 0, [], [])), (412, (.aload_n 0, 413, 0, 0, 0, [], [])), (413, (.iload_n 3, 414, 0, 0, 0, [], [])), (414, (.iconst 2, 415, 0, 2, 0, [], [])), (415, (.iadd, 416, 0, 0, 0, [], []))]
noncomputable def zI_281_13 : List (Nat × zE) := [(416, (.iaload, 417, 0, 0, 0, [], [])), (417, (.invokevirtual 32, 420, 0, 0, 0, [], [])), (420, (.aload_n 2, 421, 0, 0, 0, [], [])), (421, (.aload_n 0, 422, 0, 0, 0, [], [])), (422, (.iload_n 3, 423, 0, 0, 0, [], [])), (423, (.iconst 1, 424, 0, 1, 0, [], [])), (424, (.iadd, 425, 0, 0, 0, [], [])), (425, (.iaload, 426, 0, 0, 0, [], [])), (426, (.aload_n 0, 427, 0, 0, 0, [], [])), (427, (.iload_n 3, 428, 0, 0, 0, [], [])), (428, (.iconst 2, 429, 0, 2, 0, [], [])), (429, (.iadd, 430, 0, 0, 0, [], [])), (430, (.iaload, 431, 0, 0, 0, [], [])), (431, (.invokevirtual 35, 434, 0, 0, 0, [], [])), (434, (.if_icmp .eq 1147, 437, 1581, 0, 0, [], [])), (437, (.iconst 0, 438, 0, 0, 0, [], [])), (438, (.ireturn, 439, 0, 0, 0, [], [])), (439, (.aload_n 1, 440, 0, 0, 0, [], [true, true, true, true])), (440, (.aload_n 0, 441, 0, 0, 0, [], [])), (441, (.iload_n 3, 442, 0, 0, 0, [], [])), (442, (.iconst 1, 443, 0, 1, 0, [], [])), (443, (.iadd, 444, 0, 0, 0, [], [])), (444, (.iaload, 445, 0, 0, 0, [], [])), (445, (.i2l, 446, 0, 0, 0, [], [])), (446, (.bipush 32, 448, 0, 32, 0, [], []))]
noncomputable def zI_281_14 : List (Nat × zE) := [(448, (.lshl, 449, 0, 0, 0, [], [])), (449, (.aload_n 0, 450, 0, 0, 0, [], [])), (450, (.iload_n 3, 451, 0, 0, 0, [], [])), (451, (.iconst 2, 452, 0, 2, 0, [], [])), (452, (.iadd, 453, 0, 0, 0, [], [])), (453, (.iaload, 454, 0, 0, 0, [], [])), (454, (.i2l, 455, 0, 0, 0, [], [])), (455, (.ldc2_w 36, 458, 0, 0, 4294967295, [], [])), (458, (.land, 459, 0, 0, 0, [], [])), (459, (.lor, 460, 0, 0, 0, [], [])), (460, (.aload_n 0, 461, 0, 0, 0, [], [])), (461, (.iload_n 3, 462, 0, 0, 0, [], [])), (462, (.iconst 3, 463, 0, 3, 0, [], [])), (463, (.iadd, 464, 0, 0, 0, [], [])), (464, (.iaload, 465, 0, 0, 0, [], [])), (465, (.invokevirtual 38, 468, 0, 0, 0, [], [])), (468, (.aload_n 2, 469, 0, 0, 0, [], [])), (469, (.aload_n 0, 470, 0, 0, 0, [], [])), (470, (.iload_n 3, 471, 0, 0, 0, [], [])), (471, (.iconst 1, 472, 0, 1, 0, [], [])), (472, (.iadd, 473, 0, 0, 0, [], [])), (473, (.iaload, 474, 0, 0, 0, [], [])), (474, (.i2l, 475, 0, 0, 0, [], [])), (475, (.bipush 32, 477, 0, 32, 0, [], [])), (477, (.lshl, 478, 0, 0, 0, [], [])), (478, (.aload_n 0, 479, 0, 0, 0, [], [])), (479, (.iload_n 3, 480, 0, 0, 0, [], []))]
noncomputable def zI_281_15 : List (Nat × zE) := [(480, (.iconst 2, 481, 0, 2, 0, [], [])), (481, (.iadd, 482, 0, 0, 0, [], [])), (482, (.iaload, 483, 0, 0, 0, [], [])), (483, (.i2l, 484, 0, 0, 0, [], [])), (484, (.ldc2_w 36, 487, 0, 0, 4294967295, [], [])), (487, (.land, 488, 0, 0, 0, [], [])), (488, (.lor, 489, 0, 0, 0, [], [])), (489, (.aload_n 0, 490, 0, 0, 0, [], [])), (490, (.iload_n 3, 491, 0, 0, 0, [], [])), (491, (.iconst 3, 492, 0, 3, 0, [], [])), (492, (.iadd, 493, 0, 0, 0, [], [])), (493, (.iaload, 494, 0, 0, 0, [], [])), (494, (.invokevirtual 42, 497, 0, 0, 0, [], [])), (497, (.if_icmp .eq 1084, 500, 1581, 0, 0, [], [])), (500, (.iconst 0, 501, 0, 0, 0, [], [])), (501, (.ireturn, 502, 0, 0, 0, [], [])), (502, (.aload_n 1, 503, 0, 0, 0, [], [true, true, true, true])), (503, (.invokevirtual 43, 506, 0, 0, 0, [], [])), (506, (.aload_n 2, 507, 0, 0, 0, [], [])), (507, (.invokevirtual 47, 510, 0, 0, 0, [], [])), (510, (.if_icmp .eq 1071, 513, 1581, 0, 0, [], []))]
noncomputable def zI_281_16 : List (Nat × zE) := [(513, (.iconst 0, 514, 0, 0, 0, [], [])), (514, (.ireturn, 515, 0, 0, 0, [], [])), (515, (.aload_n 1, 516, 0, 0, 0, [], [true, true, true, true])), (516, (.aload_n 0, 517, 0, 0, 0, [], [])), (517, (.iload_n 3, 518, 0, 0, 0, [], [])), (518, (.iconst 1, 519, 0, 1, 0, [], [])), (519, (.iadd, 520, 0, 0, 0, [], [])), (520, (.iaload, 521, 0, 0, 0, [], [])), (521, (.aload_n 0, 522, 0, 0, 0, [], [])), (522, (.iload_n 3, 523, 0, 0, 0, [], [])), (523, (.iconst 2, 524, 0, 2, 0, [], [])), (524, (.iadd, 525, 0, 0, 0, [], [])), (525, (.iaload, 526, 0, 0, 0, [], [])), (526, (.invokevirtual 48, 529, 0, 0, 0, [], [])), (529, (.aload_n 2, 530, 0, 0, 0, [], [])), (530, (.aload_n 0, 531, 0, 0, 0, [], [])), (531, (.iload_n 3, 532, 0, 0, 0, [], [])), (532, (.iconst 1, 533, 0, 1, 0, [], [])), (533, (.iadd, 534, 0, 0, 0, [], [])), (534, (.iaload, 535, 0, 0, 0, [], [])), (535, (.aload_n 0, 536, 0, 0, 0, [], [])), (536, (.iload_n 3, 537, 0, 0, 0, [], [])), (537, (.iconst 2, 538, 0, 2, 0, [], [])), (538, (.iadd, 539, 0, 0, 0, [], [])), (539, (.iaload, 540, 0, 0, 0, [], [])), (540, (.invokevirtual 51, 543, 0, 0, 0, [], [])), (543, (.if_icmp .eq 1038, 546, 1581, 0, 0, [], []))]
noncomputable def zI_281_17 : List (Nat × zE) := [(546, (.iconst 0, 547, 0, 0, 0, [], [])), (547, (.ireturn, 548, 0, 0, 0, [], [])), (548, (.aload_n 1, 549, 0, 0, 0, [], [true, true, true, true])), (549, (.aload_n 0, 550, 0, 0, 0, [], [])), (550, (.iload_n 3, 551, 0, 0, 0, [], [])), (551, (.iconst 1, 552, 0, 1, 0, [], [])), (552, (.iadd, 553, 0, 0, 0, [], [])), (553, (.iaload, 554, 0, 0, 0, [], [])), (554, (.aload_n 0, 555, 0, 0, 0, [], [])), (555, (.iload_n 3, 556, 0, 0, 0, [], [])), (556, (.iconst 2, 557, 0, 2, 0, [], [])), (557, (.iadd, 558, 0, 0, 0, [], [])), (558, (.iaload, 559, 0, 0, 0, [], [])), (559, (.invokevirtual 52, 562, 0, 0, 0, [], [])), (562, (.aload_n 2, 563, 0, 0, 0, [], [])), (563, (.aload_n 0, 564, 0, 0, 0, [], [])), (564, (.iload_n 3, 565, 0, 0, 0, [], [])), (565, (.iconst 1, 566, 0, 1, 0, [], [])), (566, (.iadd, 567, 0, 0, 0, [], [])), (567, (.iaload, 568, 0, 0, 0, [], [])), (568, (.aload_n 0, 569, 0, 0, 0, [], [])), (569, (.iload_n 3, 570, 0, 0, 0, [], [])), (570, (.iconst 2, 571, 0, 2, 0, [], [])), (571, (.iadd, 572, 0, 0, 0, [], [])), (572, (.iaload, 573, 0, 0, 0, [], [])), (573, (.invokevirtual 55, 576, 0, 0, 0, [], []))]
noncomputable def zI_281_18 : List (Nat × zE) := [(576, (.if_icmp .eq 1005, 579, 1581, 0, 0, [], [])), (579, (.iconst 0, 580, 0, 0, 0, [], [])), (580, (.ireturn, 581, 0, 0, 0, [], [])), (581, (.aload_n 1, 582, 0, 0, 0, [], [true, true, true, true])), (582, (.aload_n 0, 583, 0, 0, 0, [], [])), (583, (.iload_n 3, 584, 0, 0, 0, [], [])), (584, (.iconst 1, 585, 0, 1, 0, [], [])), (585, (.iadd, 586, 0, 0, 0, [], [])), (586, (.iaload, 587, 0, 0, 0, [], [])), (587, (.aload_n 0, 588, 0, 0, 0, [], [])), (588, (.iload_n 3, 589, 0, 0, 0, [], [])), (589, (.iconst 2, 590, 0, 2, 0, [], [])), (590, (.iadd, 591, 0, 0, 0, [], [])), (591, (.iaload, 592, 0, 0, 0, [], [])), (592, (.invokevirtual 56, 595, 0, 0, 0, [], [])), (595, (.aload_n 2, 596, 0, 0, 0, [], [])), (596, (.aload_n 0, 597, 0, 0, 0, [], [])), (597, (.iload_n 3, 598, 0, 0, 0, [], [])), (598, (.iconst 1, 599, 0, 1, 0, [], [])), (599, (.iadd, 600, 0, 0, 0, [], [])), (600, (.iaload, 601, 0, 0, 0, [], [])), (601, (.aload_n 0, 602, 0, 0, 0, [], [])), (602, (.iload_n 3, 603, 0, 0, 0, [], [])), (603, (.iconst 2, 604, 0, 2, 0, [], [])), (604, (.iadd, 605, 0, 0, 0, [], [])), (605, (.iaload, 606, 0, 0, 0, [], [])), (606, (.invokevirtual 59, 609, 0, 0, 0, [], []))]
noncomputable def zI_281_19 : List (Nat × zE) := [(609, (.if_icmp .eq 972, 612, 1581, 0, 0, [], [])), (612, (.iconst 0, 613, 0, 0, 0, [], [])), (613, (.ireturn, 614, 0, 0, 0, [], [])), (614, (.aload_n 1, 615, 0, 0, 0, [], [true, true, true, true])), (615, (.aload_n 0, 616, 0, 0, 0, [], [])), (616, (.iload_n 3, 617, 0, 0, 0, [], [])), (617, (.iconst 1, 618, 0, 1, 0, [], [])), (618, (.iadd, 619, 0, 0, 0, [], [])), (619, (.iaload, 620, 0, 0, 0, [], [])), (620, (.invokevirtual 60, 623, 0, 0, 0, [], [])), (623, (.aload_n 2, 624, 0, 0, 0, [], [])), (624, (.aload_n 0, 625, 0, 0, 0, [], [])), (625, (.iload_n 3, 626, 0, 0, 0, [], [])), (626, (.iconst 1, 627, 0, 1, 0, [], [])), (627, (.iadd, 628, 0, 0, 0, [], [])), (628, (.iaload, 629, 0, 0, 0, [], [])), (629, (.invokevirtual 64, 632, 0, 0, 0, [], [])), (632, (.if_icmp .eq 949, 635, 1581, 0, 0, [], [])), (635, (.iconst 0, 636, 0, 0, 0, [], [])), (636, (.ireturn, 637, 0, 0, 0, [], [])), (637, (.aload_n 1, 638, 0, 0, 0, [], [true, true, true, true])), (638, (.invokevirtual 65, 641, 0, 0, 0, [], []))]
noncomputable def zI_281_20 : List (Nat × zE) := [(641, (.aload_n 2, 642, 0, 0, 0, [], [])), (642, (.invokevirtual 68, 645, 0, 0, 0, [], [])), (645, (.if_icmp .eq 936, 648, 1581, 0, 0, [], [])), (648, (.iconst 0, 649, 0, 0, 0, [], [])), (649, (.ireturn, 650, 0, 0, 0, [], [])), (650, (.aload_n 1, 651, 0, 0, 0, [], [true, true, true, true])), (651, (.invokevirtual 69, 654, 0, 0, 0, [], [])), (654, (.aload_n 2, 655, 0, 0, 0, [], [])), (655, (.invokevirtual 72, 658, 0, 0, 0, [], [])), (658, (.if_icmp .eq 923, 661, 1581, 0, 0, [], [])), (661, (.iconst 0, 662, 0, 0, 0, [], [])), (662, (.ireturn, 663, 0, 0, 0, [], [])), (663, (.aload_n 1, 664, 0, 0, 0, [], [true, true, true, true])), (664, (.invokevirtual 73, 667, 0, 0, 0, [], [])), (667, (.aload_n 2, 668, 0, 0, 0, [], [])), (668, (.invokevirtual 76, 671, 0, 0, 0, [], [])), (671, (.if_icmp .eq 910, 674, 1581, 0, 0, [], []))]
noncomputable def zI_281_21 : List (Nat × zE) := [(674, (.iconst 0, 675, 0, 0, 0, [], [])), (675, (.ireturn, 676, 0, 0, 0, [], [])), (676, (.aload_n 1, 677, 0, 0, 0, [], [true, true, true, true])), (677, (.invokevirtual 77, 680, 0, 0, 0, [], [])), (680, (.aload_n 2, 681, 0, 0, 0, [], [])), (681, (.invokevirtual 80, 684, 0, 0, 0, [], [])), (684, (.if_icmp .eq 897, 687, 1581, 0, 0, [], [])), (687, (.iconst 0, 688, 0, 0, 0, [], [])), (688, (.ireturn, 689, 0, 0, 0, [], [])), (689, (.aload_n 1, 690, 0, 0, 0, [], [true, true, true, true])), (690, (.aload_n 0, 691, 0, 0, 0, [], [])), (691, (.iload_n 3, 692, 0, 0, 0, [], [])), (692, (.iconst 1, 693, 0, 1, 0, [], [])), (693, (.iadd, 694, 0, 0, 0, [], [])), (694, (.iaload, 695, 0, 0, 0, [], [])), (695, (.invokevirtual 81, 698, 0, 0, 0, [], [])), (698, (.aload_n 2, 699, 0, 0, 0, [], [])), (699, (.aload_n 0, 700, 0, 0, 0, [], [])), (700, (.iload_n 3, 701, 0, 0, 0, [], [])), (701, (.iconst 1, 702, 0, 1, 0, [], [])), (702, (.iadd, 703, 0, 0, 0, [], [])), (703, (.iaload, 704, 0, 0, 0, [], []))]
noncomputable def zI_281_22 : List (Nat × zE) := [(704, (.invokevirtual 84, 707, 0, 0, 0, [], [])), (707, (.if_icmp .eq 874, 710, 1581, 0, 0, [], [])), (710, (.iconst 0, 711, 0, 0, 0, [], [])), (711, (.ireturn, 712, 0, 0, 0, [], [])), (712, (.aload_n 1, 713, 0, 0, 0, [], [true, true, true, true])), (713, (.invokevirtual 85, 716, 0, 0, 0, [], [])), (716, (.aload_n 2, 717, 0, 0, 0, [], [])), (717, (.invokevirtual 88, 720, 0, 0, 0, [], [])), (720, (.if_icmp .eq 861, 723, 1581, 0, 0, [], [])), (723, (.iconst 0, 724, 0, 0, 0, [], [])), (724, (.ireturn, 725, 0, 0, 0, [], [])), (725, (.aload_n 1, 726, 0, 0, 0, [], [true, true, true, true])), (726, (.aload_n 0, 727, 0, 0, 0, [], [])), (727, (.iload_n 3, 728, 0, 0, 0, [], [])), (728, (.iconst 1, 729, 0, 1, 0, [], [])), (729, (.iadd, 730, 0, 0, 0, [], [])), (730, (.iaload, 731, 0, 0, 0, [], [])), (731, (.invokevirtual 89, 734, 0, 0, 0, [], [])), (734, (.aload_n 2, 735, 0, 0, 0, [], [])), (735, (.aload_n 0, 736, 0, 0, 0, [], []))]
noncomputable def zI_281_23 : List (Nat × zE) := [(736, (.iload_n 3, 737, 0, 0, 0, [], [])), (737, (.iconst 1, 738, 0, 1, 0, [], [])), (738, (.iadd, 739, 0, 0, 0, [], [])), (739, (.iaload, 740, 0, 0, 0, [], [])), (740, (.invokevirtual 92, 743, 0, 0, 0, [], [])), (743, (.if_icmp .eq 838, 746, 1581, 0, 0, [], [])), (746, (.iconst 0, 747, 0, 0, 0, [], [])), (747, (.ireturn, 748, 0, 0, 0, [], [])), (748, (.aload_n 1, 749, 0, 0, 0, [], [true, true, true, true])), (749, (.aload_n 0, 750, 0, 0, 0, [], [])), (750, (.iload_n 3, 751, 0, 0, 0, [], [])), (751, (.iconst 1, 752, 0, 1, 0, [], [])), (752, (.iadd, 753, 0, 0, 0, [], [])), (753, (.iaload, 754, 0, 0, 0, [], [])), (754, (.invokevirtual 93, 757, 0, 0, 0, [], [])), (757, (.aload_n 2, 758, 0, 0, 0, [], [])), (758, (.aload_n 0, 759, 0, 0, 0, [], [])), (759, (.iload_n 3, 760, 0, 0, 0, [], [])), (760, (.iconst 1, 761, 0, 1, 0, [], [])), (761, (.iadd, 762, 0, 0, 0, [], [])), (762, (.iaload, 763, 0, 0, 0, [], [])), (763, (.invokevirtual 96, 766, 0, 0, 0, [], [])), (766, (.if_icmp .eq 815, 769, 1581, 0, 0, [], []))]
noncomputable def zI_281_24 : List (Nat × zE) := [(769, (.iconst 0, 770, 0, 0, 0, [], [])), (770, (.ireturn, 771, 0, 0, 0, [], [])), (771, (.aload_n 1, 772, 0, 0, 0, [], [true, true, true, true])), (772, (.aload_n 0, 773, 0, 0, 0, [], [])), (773, (.iload_n 3, 774, 0, 0, 0, [], [])), (774, (.iconst 1, 775, 0, 1, 0, [], [])), (775, (.iadd, 776, 0, 0, 0, [], [])), (776, (.iaload, 777, 0, 0, 0, [], [])), (777, (.invokevirtual 97, 780, 0, 0, 0, [], [])), (780, (.aload_n 2, 781, 0, 0, 0, [], [])), (781, (.aload_n 0, 782, 0, 0, 0, [], [])), (782, (.iload_n 3, 783, 0, 0, 0, [], [])), (783, (.iconst 1, 784, 0, 1, 0, [], [])), (784, (.iadd, 785, 0, 0, 0, [], [])), (785, (.iaload, 786, 0, 0, 0, [], [])), (786, (.invokevirtual 100, 789, 0, 0, 0, [], [])), (789, (.if_icmp .eq 792, 792, 1581, 0, 0, [], [])), (792, (.iconst 0, 793, 0, 0, 0, [], [])), (793, (.ireturn, 794, 0, 0, 0, [], [])), (794, (.aload_n 1, 795, 0, 0, 0, [], [true, true, true, true])), (795, (.invokevirtual 101, 798, 0, 0, 0, [], [])), (798, (.aload_n 2, 799, 0, 0, 0, [], [])), (799, (.invokevirtual 104, 802, 0, 0, 0, [], []))]
noncomputable def zI_281_25 : List (Nat × zE) := [(802, (.if_icmp .eq 779, 805, 1581, 0, 0, [], [])), (805, (.iconst 0, 806, 0, 0, 0, [], [])), (806, (.ireturn, 807, 0, 0, 0, [], [])), (807, (.aload_n 1, 808, 0, 0, 0, [], [true, true, true, true])), (808, (.invokevirtual 105, 811, 0, 0, 0, [], [])), (811, (.aload_n 2, 812, 0, 0, 0, [], [])), (812, (.invokevirtual 108, 815, 0, 0, 0, [], [])), (815, (.if_icmp .eq 766, 818, 1581, 0, 0, [], [])), (818, (.iconst 0, 819, 0, 0, 0, [], [])), (819, (.ireturn, 820, 0, 0, 0, [], [])), (820, (.aload_n 1, 821, 0, 0, 0, [], [true, true, true, true])), (821, (.invokevirtual 109, 824, 0, 0, 0, [], [])), (824, (.aload_n 2, 825, 0, 0, 0, [], [])), (825, (.invokevirtual 112, 828, 0, 0, 0, [], [])), (828, (.if_icmp .eq 753, 831, 1581, 0, 0, [], [])), (831, (.iconst 0, 832, 0, 0, 0, [], []))]
noncomputable def zI_281_26 : List (Nat × zE) := [(832, (.ireturn, 833, 0, 0, 0, [], [])), (833, (.aload_n 1, 834, 0, 0, 0, [], [true, true, true, true])), (834, (.aload_n 0, 835, 0, 0, 0, [], [])), (835, (.iload_n 3, 836, 0, 0, 0, [], [])), (836, (.iconst 1, 837, 0, 1, 0, [], [])), (837, (.iadd, 838, 0, 0, 0, [], [])), (838, (.iaload, 839, 0, 0, 0, [], [])), (839, (.aload_n 0, 840, 0, 0, 0, [], [])), (840, (.iload_n 3, 841, 0, 0, 0, [], [])), (841, (.iconst 2, 842, 0, 2, 0, [], [])), (842, (.iadd, 843, 0, 0, 0, [], [])), (843, (.iaload, 844, 0, 0, 0, [], [])), (844, (.invokevirtual 113, 847, 0, 0, 0, [], [])), (847, (.aload_n 2, 848, 0, 0, 0, [], [])), (848, (.aload_n 0, 849, 0, 0, 0, [], [])), (849, (.iload_n 3, 850, 0, 0, 0, [], [])), (850, (.iconst 1, 851, 0, 1, 0, [], [])), (851, (.iadd, 852, 0, 0, 0, [], [])), (852, (.iaload, 853, 0, 0, 0, [], [])), (853, (.aload_n 0, 854, 0, 0, 0, [], [])), (854, (.iload_n 3, 855, 0, 0, 0, [], [])), (855, (.iconst 2, 856, 0, 2, 0, [], [])), (856, (.iadd, 857, 0, 0, 0, [], [])), (857, (.iaload, 858, 0, 0, 0, [], [])), (858, (.invokevirtual 116, 861, 0, 0, 0, [], [])), (861, (.if_icmp .eq 720, 864, 1581, 0, 0, [], []))]
noncomputable def zI_281_27 : List (Nat × zE) := [(864, (.iconst 0, 865, 0, 0, 0, [], [])), (865, (.ireturn, 866, 0, 0, 0, [], [])), (866, (.aload_n 1, 867, 0, 0, 0, [], [true, true, true, true])), (867, (.aload_n 0, 868, 0, 0, 0, [], [])), (868, (.iload_n 3, 869, 0, 0, 0, [], [])), (869, (.iconst 1, 870, 0, 1, 0, [], [])), (870, (.iadd, 871, 0, 0, 0, [], [])), (871, (.iaload, 872, 0, 0, 0, [], [])), (872, (.invokevirtual 117, 875, 0, 0, 0, [], [])), (875, (.aload_n 2, 876, 0, 0, 0, [], [])), (876, (.aload_n 0, 877, 0, 0, 0, [], [])), (877, (.iload_n 3, 878, 0, 0, 0, [], [])), (878, (.iconst 1, 879, 0, 1, 0, [], [])), (879, (.iadd, 880, 0, 0, 0, [], [])), (880, (.iaload, 881, 0, 0, 0, [], [])), (881, (.invokevirtual 120, 884, 0, 0, 0, [], [])), (884, (.if_icmp .eq 697, 887, 1581, 0, 0, [], [])), (887, (.iconst 0, 888, 0, 0, 0, [], [])), (888, (.ireturn, 889, 0, 0, 0, [], [])), (889, (.aload_n 1, 890, 0, 0, 0, [], [true, true, true, true])), (890, (.aload_n 0, 891, 0, 0, 0, [], [])), (891, (.iload_n 3, 892, 0, 0, 0, [], [])), (892, (.iconst 1, 893, 0, 1, 0, [], [])), (893, (.iadd, 894, 0, 0, 0, [], [])), (894, (.iaload, 895, 0, 0, 0, [], [])), (895, (.aload_n 0, 896, 0, 0, 0, [], []))]
noncomputable def zI_281_28 : List (Nat × zE) := [(896, (.iload_n 3, 897, 0, 0, 0, [], [])), (897, (.iconst 2, 898, 0, 2, 0, [], [])), (898, (.iadd, 899, 0, 0, 0, [], [])), (899, (.iaload, 900, 0, 0, 0, [], [])), (900, (.invokevirtual 121, 903, 0, 0, 0, [], [])), (903, (.aload_n 2, 904, 0, 0, 0, [], [])), (904, (.aload_n 0, 905, 0, 0, 0, [], [])), (905, (.iload_n 3, 906, 0, 0, 0, [], [])), (906, (.iconst 1, 907, 0, 1, 0, [], [])), (907, (.iadd, 908, 0, 0, 0, [], [])), (908, (.iaload, 909, 0, 0, 0, [], [])), (909, (.aload_n 0, 910, 0, 0, 0, [], [])), (910, (.iload_n 3, 911, 0, 0, 0, [], [])), (911, (.iconst 2, 912, 0, 2, 0, [], [])), (912, (.iadd, 913, 0, 0, 0, [], [])), (913, (.iaload, 914, 0, 0, 0, [], [])), (914, (.invokevirtual 124, 917, 0, 0, 0, [], [])), (917, (.if_icmp .eq 664, 920, 1581, 0, 0, [], [])), (920, (.iconst 0, 921, 0, 0, 0, [], [])), (921, (.ireturn, 922, 0, 0, 0, [], [])), (922, (.aload_n 1, 923, 0, 0, 0, [], [true, true, true, true])), (923, (.aload_n 0, 924, 0, 0, 0, [], [])), (924, (.iload_n 3, 925, 0, 0, 0, [], [])), (925, (.iconst 1, 926, 0, 1, 0, [], [])), (926, (.iadd, 927, 0, 0, 0, [], [])), (927, (.iaload, 928, 0, 0, 0, [], []))]
noncomputable def zI_281_29 : List (Nat × zE) := [(928, (.aload_n 0, 929, 0, 0, 0, [], [])), (929, (.iload_n 3, 930, 0, 0, 0, [], [])), (930, (.iconst 2, 931, 0, 2, 0, [], [])), (931, (.iadd, 932, 0, 0, 0, [], [])), (932, (.iaload, 933, 0, 0, 0, [], [])), (933, (.invokevirtual 125, 936, 0, 0, 0, [], [])), (936, (.aload_n 2, 937, 0, 0, 0, [], [])), (937, (.aload_n 0, 938, 0, 0, 0, [], [])), (938, (.iload_n 3, 939, 0, 0, 0, [], [])), (939, (.iconst 1, 940, 0, 1, 0, [], [])), (940, (.iadd, 941, 0, 0, 0, [], [])), (941, (.iaload, 942, 0, 0, 0, [], [])), (942, (.aload_n 0, 943, 0, 0, 0, [], [])), (943, (.iload_n 3, 944, 0, 0, 0, [], [])), (944, (.iconst 2, 945, 0, 2, 0, [], [])), (945, (.iadd, 946, 0, 0, 0, [], [])), (946, (.iaload, 947, 0, 0, 0, [], [])), (947, (.invokevirtual 128, 950, 0, 0, 0, [], [])), (950, (.if_icmp .eq 631, 953, 1581, 0, 0, [], [])), (953, (.iconst 0, 954, 0, 0, 0, [], [])), (954, (.ireturn, 955, 0, 0, 0, [], [])), (955, (.aload_n 1, 956, 0, 0, 0, [], [true, true, true, true])), (956, (.aload_n 0, 957, 0, 0, 0, [], [])), (957, (.iload_n 3, 958, 0, 0, 0, [], [])), (958, (.iconst 1, 959, 0, 1, 0, [], [])), (959, (.iadd, 960, 0, 0, 0, [], []))]
noncomputable def zI_281_30 : List (Nat × zE) := [(960, (.iaload, 961, 0, 0, 0, [], [])), (961, (.aload_n 0, 962, 0, 0, 0, [], [])), (962, (.iload_n 3, 963, 0, 0, 0, [], [])), (963, (.iconst 2, 964, 0, 2, 0, [], [])), (964, (.iadd, 965, 0, 0, 0, [], [])), (965, (.iaload, 966, 0, 0, 0, [], [])), (966, (.invokevirtual 129, 969, 0, 0, 0, [], [])), (969, (.aload_n 2, 970, 0, 0, 0, [], [])), (970, (.aload_n 0, 971, 0, 0, 0, [], [])), (971, (.iload_n 3, 972, 0, 0, 0, [], [])), (972, (.iconst 1, 973, 0, 1, 0, [], [])), (973, (.iadd, 974, 0, 0, 0, [], [])), (974, (.iaload, 975, 0, 0, 0, [], [])), (975, (.aload_n 0, 976, 0, 0, 0, [], [])), (976, (.iload_n 3, 977, 0, 0, 0, [], [])), (977, (.iconst 2, 978, 0, 2, 0, [], [])), (978, (.iadd, 979, 0, 0, 0, [], [])), (979, (.iaload, 980, 0, 0, 0, [], [])), (980, (.invokevirtual 132, 983, 0, 0, 0, [], [])), (983, (.if_icmp .eq 598, 986, 1581, 0, 0, [], [])), (986, (.iconst 0, 987, 0, 0, 0, [], [])), (987, (.ireturn, 988, 0, 0, 0, [], [])), (988, (.aload_n 1, 989, 0, 0, 0, [], [true, true, true, true])), (989, (.invokevirtual 133, 992, 0, 0, 0, [], []))]
noncomputable def zI_281_31 : List (Nat × zE) := [(992, (.aload_n 2, 993, 0, 0, 0, [], [])), (993, (.invokevirtual 136, 996, 0, 0, 0, [], [])), (996, (.if_icmp .eq 585, 999, 1581, 0, 0, [], [])), (999, (.iconst 0, 1000, 0, 0, 0, [], [])), (1000, (.ireturn, 1001, 0, 0, 0, [], [])), (1001, (.aload_n 1, 1002, 0, 0, 0, [], [true, true, true, true])), (1002, (.aload_n 0, 1003, 0, 0, 0, [], [])), (1003, (.iload_n 3, 1004, 0, 0, 0, [], [])), (1004, (.iconst 1, 1005, 0, 1, 0, [], [])), (1005, (.iadd, 1006, 0, 0, 0, [], [])), (1006, (.iaload, 1007, 0, 0, 0, [], [])), (1007, (.invokevirtual 137, 1010, 0, 0, 0, [], [])), (1010, (.aload_n 2, 1011, 0, 0, 0, [], [])), (1011, (.aload_n 0, 1012, 0, 0, 0, [], [])), (1012, (.iload_n 3, 1013, 0, 0, 0, [], [])), (1013, (.iconst 1, 1014, 0, 1, 0, [], [])), (1014, (.iadd, 1015, 0, 0, 0, [], [])), (1015, (.iaload, 1016, 0, 0, 0, [], [])), (1016, (.invokevirtual 140, 1019, 0, 0, 0, [], [])), (1019, (.if_icmp .eq 562, 1022, 1581, 0, 0, [], [])), (1022, (.iconst 0, 1023, 0, 0, 0, [], [])), (1023, (.ireturn, 1024, 0, 0, 0, [], []))]
noncomputable def zI_281_32 : List (Nat × zE) := [(1024, (.aload_n 1, 1025, 0, 0, 0, [], [true, true, true, true])), (1025, (.invokevirtual 141, 1028, 0, 0, 0, [], [])), (1028, (.aload_n 2, 1029, 0, 0, 0, [], [])), (1029, (.invokevirtual 144, 1032, 0, 0, 0, [], [])), (1032, (.if_icmp .eq 549, 1035, 1581, 0, 0, [], [])), (1035, (.iconst 0, 1036, 0, 0, 0, [], [])), (1036, (.ireturn, 1037, 0, 0, 0, [], [])), (1037, (.aload_n 1, 1038, 0, 0, 0, [], [true, true, true, true])), (1038, (.aload_n 0, 1039, 0, 0, 0, [], [])), (1039, (.iload_n 3, 1040, 0, 0, 0, [], [])), (1040, (.iconst 1, 1041, 0, 1, 0, [], [])), (1041, (.iadd, 1042, 0, 0, 0, [], [])), (1042, (.iaload, 1043, 0, 0, 0, [], [])), (1043, (.invokevirtual 145, 1046, 0, 0, 0, [], [])), (1046, (.aload_n 2, 1047, 0, 0, 0, [], [])), (1047, (.aload_n 0, 1048, 0, 0, 0, [], [])), (1048, (.iload_n 3, 1049, 0, 0, 0, [], [])), (1049, (.iconst 1, 1050, 0, 1, 0, [], [])), (1050, (.iadd, 1051, 0, 0, 0, [], [])), (1051, (.iaload, 1052, 0, 0, 0, [], [])), (1052, (.invokevirtual 148, 1055, 0, 0, 0, [], [])), (1055, (.if_icmp .eq 526, 1058, 1581, 0, 0, [], []))]
noncomputable def zI_281_33 : List (Nat × zE) := [(1058, (.iconst 0, 1059, 0, 0, 0, [], [])), (1059, (.ireturn, 1060, 0, 0, 0, [], [])), (1060, (.aload_n 1, 1061, 0, 0, 0, [], [true, true, true, true])), (1061, (.invokevirtual 149, 1064, 0, 0, 0, [], [])), (1064, (.aload_n 2, 1065, 0, 0, 0, [], [])), (1065, (.invokevirtual 152, 1068, 0, 0, 0, [], [])), (1068, (.if_icmp .eq 513, 1071, 1581, 0, 0, [], [])), (1071, (.iconst 0, 1072, 0, 0, 0, [], [])), (1072, (.ireturn, 1073, 0, 0, 0, [], [])), (1073, (.aload_n 1, 1074, 0, 0, 0, [], [true, true, true, true])), (1074, (.aload_n 0, 1075, 0, 0, 0, [], [])), (1075, (.iload_n 3, 1076, 0, 0, 0, [], [])), (1076, (.iconst 1, 1077, 0, 1, 0, [], [])), (1077, (.iadd, 1078, 0, 0, 0, [], [])), (1078, (.iaload, 1079, 0, 0, 0, [], [])), (1079, (.invokevirtual 153, 1082, 0, 0, 0, [], [])), (1082, (.aload_n 2, 1083, 0, 0, 0, [], [])), (1083, (.aload_n 0, 1084, 0, 0, 0, [], [])), (1084, (.iload_n 3, 1085, 0, 0, 0, [], [])), (1085, (.iconst 1, 1086, 0, 1, 0, [], [])), (1086, (.iadd, 1087, 0, 0, 0, [], [])), (1087, (.iaload, 1088, 0, 0, 0, [], []))]
noncomputable def zI_281_34 : List (Nat × zE) := [(1088, (.invokevirtual 156, 1091, 0, 0, 0, [], [])), (1091, (.if_icmp .eq 490, 1094, 1581, 0, 0, [], [])), (1094, (.iconst 0, 1095, 0, 0, 0, [], [])), (1095, (.ireturn, 1096, 0, 0, 0, [], [])), (1096, (.aload_n 1, 1097, 0, 0, 0, [], [true, true, true, true])), (1097, (.aload_n 0, 1098, 0, 0, 0, [], [])), (1098, (.iload_n 3, 1099, 0, 0, 0, [], [])), (1099, (.iconst 1, 1100, 0, 1, 0, [], [])), (1100, (.iadd, 1101, 0, 0, 0, [], [])), (1101, (.iaload, 1102, 0, 0, 0, [], [])), (1102, (.invokevirtual 157, 1105, 0, 0, 0, [], [])), (1105, (.aload_n 2, 1106, 0, 0, 0, [], [])), (1106, (.aload_n 0, 1107, 0, 0, 0, [], [])), (1107, (.iload_n 3, 1108, 0, 0, 0, [], [])), (1108, (.iconst 1, 1109, 0, 1, 0, [], [])), (1109, (.iadd, 1110, 0, 0, 0, [], [])), (1110, (.iaload, 1111, 0, 0, 0, [], [])), (1111, (.invokevirtual 160, 1114, 0, 0, 0, [], [])), (1114, (.if_icmp .eq 467, 1117, 1581, 0, 0, [], [])), (1117, (.iconst 0, 1118, 0, 0, 0, [], [])), (1118, (.ireturn, 1119, 0, 0, 0, [], [])), (1119, (.aload_n 1, 1120, 0, 0, 0, [], [true, true, true, true]))]
noncomputable def zI_281_35 : List (Nat × zE) := [(1120, (.aload_n 0, 1121, 0, 0, 0, [], [])), (1121, (.iload_n 3, 1122, 0, 0, 0, [], [])), (1122, (.iconst 1, 1123, 0, 1, 0, [], [])), (1123, (.iadd, 1124, 0, 0, 0, [], [])), (1124, (.iaload, 1125, 0, 0, 0, [], [])), (1125, (.aload_n 0, 1126, 0, 0, 0, [], [])), (1126, (.iload_n 3, 1127, 0, 0, 0, [], [])), (1127, (.iconst 2, 1128, 0, 2, 0, [], [])), (1128, (.iadd, 1129, 0, 0, 0, [], [])), (1129, (.iaload, 1130, 0, 0, 0, [], [])), (1130, (.invokevirtual 161, 1133, 0, 0, 0, [], [])), (1133, (.aload_n 2, 1134, 0, 0, 0, [], [])), (1134, (.aload_n 0, 1135, 0, 0, 0, [], [])), (1135, (.iload_n 3, 1136, 0, 0, 0, [], [])), (1136, (.iconst 1, 1137, 0, 1, 0, [], [])), (1137, (.iadd, 1138, 0, 0, 0, [], [])), (1138, (.iaload, 1139, 0, 0, 0, [], [])), (1139, (.aload_n 0, 1140, 0, 0, 0, [], [])), (1140, (.iload_n 3, 1141, 0, 0, 0, [], [])), (1141, (.iconst 2, 1142, 0, 2, 0, [], [])), (1142, (.iadd, 1143, 0, 0, 0, [], [])), (1143, (.iaload, 1144, 0, 0, 0, [], [])), (1144, (.invokevirtual 164, 1147, 0, 0, 0, [], [])), (1147, (.if_icmp .eq 434, 1150, 1581, 0, 0, [], [])), (1150, (.iconst 0, 1151, 0, 0, 0, [], [])), (1151, (.ireturn, 1152, 0, 0, 0, [], []))]
noncomputable def zI_281_36 : List (Nat × zE) := [(1152, (.aload_n 1, 1153, 0, 0, 0, [], [true, true, true, true])), (1153, (.aload_n 0, 1154, 0, 0, 0, [], [])), (1154, (.iload_n 3, 1155, 0, 0, 0, [], [])), (1155, (.iconst 1, 1156, 0, 1, 0, [], [])), (1156, (.iadd, 1157, 0, 0, 0, [], [])), (1157, (.iaload, 1158, 0, 0, 0, [], [])), (1158, (.aload_n 0, 1159, 0, 0, 0, [], [])), (1159, (.iload_n 3, 1160, 0, 0, 0, [], [])), (1160, (.iconst 2, 1161, 0, 2, 0, [], [])), (1161, (.iadd, 1162, 0, 0, 0, [], [])), (1162, (.iaload, 1163, 0, 0, 0, [], [])), (1163, (.aload_n 0, 1164, 0, 0, 0, [], [])), (1164, (.iload_n 3, 1165, 0, 0, 0, [], [])), (1165, (.iconst 3, 1166, 0, 3, 0, [], [])), (1166, (.iadd, 1167, 0, 0, 0, [], [])), (1167, (.iaload, 1168, 0, 0, 0, [], [])), (1168, (.invokevirtual 165, 1171, 0, 0, 0, [], [])), (1171, (.aload_n 2, 1172, 0, 0, 0, [], [])), (1172, (.aload_n 0, 1173, 0, 0, 0, [], [])), (1173, (.iload_n 3, 1174, 0, 0, 0, [], [])), (1174, (.iconst 1, 1175, 0, 1, 0, [], [])), (1175, (.iadd, 1176, 0, 0, 0, [], [])), (1176, (.iaload, 1177, 0, 0, 0, [], [])), (1177, (.aload_n 0, 1178, 0, 0, 0, [], [])), (1178, (.iload_n 3, 1179, 0, 0, 0, [], [])), (1179, (.iconst 2, 1180, 0, 2, 0, [], [])), (1180, (.iadd, 1181, 0, 0, 0, [], [])), (1181, (.iaload, 1182, 0, 0, 0, [], [])), (1182, (.aload_n 0, 1183, 0, 0, 0, [], [])), (1183, (.iload_n 3, 1184, 0, 0, 0, [], []))]
noncomputable def zI_281_37 : List (Nat × zE) := [(1184, (.iconst 3, 1185, 0, 3, 0, [], [])), (1185, (.iadd, 1186, 0, 0, 0, [], [])), (1186, (.iaload, 1187, 0, 0, 0, [], [])), (1187, (.invokevirtual 168, 1190, 0, 0, 0, [], [])), (1190, (.if_icmp .eq 391, 1193, 1581, 0, 0, [], [])), (1193, (.iconst 0, 1194, 0, 0, 0, [], [])), (1194, (.ireturn, 1195, 0, 0, 0, [], [])), (1195, (.aload_n 1, 1196, 0, 0, 0, [], [true, true, true, true])), (1196, (.invokevirtual 169, 1199, 0, 0, 0, [], [])), (1199, (.aload_n 2, 1200, 0, 0, 0, [], [])), (1200, (.invokevirtual 172, 1203, 0, 0, 0, [], [])), (1203, (.if_icmp .eq 378, 1206, 1581, 0, 0, [], [])), (1206, (.iconst 0, 1207, 0, 0, 0, [], [])), (1207, (.ireturn, 1208, 0, 0, 0, [], [])), (1208, (.aload_n 1, 1209, 0, 0, 0, [], [true, true, true, true])), (1209, (.aload_n 0, 1210, 0, 0, 0, [], [])), (1210, (.iload_n 3, 1211, 0, 0, 0, [], [])), (1211, (.iconst 1, 1212, 0, 1, 0, [], [])), (1212, (.iadd, 1213, 0, 0, 0, [], [])), (1213, (.iaload, 1214, 0, 0, 0, [], [])), (1214, (.aload_n 0, 1215, 0, 0, 0, [], [])), (1215, (.iload_n 3, 1216, 0, 0, 0, [], []))]
noncomputable def zI_281_38 : List (Nat × zE) := [(1216, (.iconst 2, 1217, 0, 2, 0, [], [])), (1217, (.iadd, 1218, 0, 0, 0, [], [])), (1218, (.iaload, 1219, 0, 0, 0, [], [])), (1219, (.aload_n 0, 1220, 0, 0, 0, [], [])), (1220, (.iload_n 3, 1221, 0, 0, 0, [], [])), (1221, (.iconst 3, 1222, 0, 3, 0, [], [])), (1222, (.iadd, 1223, 0, 0, 0, [], [])), (1223, (.iaload, 1224, 0, 0, 0, [], [])), (1224, (.invokevirtual 173, 1227, 0, 0, 0, [], [])), (1227, (.aload_n 2, 1228, 0, 0, 0, [], [])), (1228, (.aload_n 0, 1229, 0, 0, 0, [], [])), (1229, (.iload_n 3, 1230, 0, 0, 0, [], [])), (1230, (.iconst 1, 1231, 0, 1, 0, [], [])), (1231, (.iadd, 1232, 0, 0, 0, [], [])), (1232, (.iaload, 1233, 0, 0, 0, [], [])), (1233, (.aload_n 0, 1234, 0, 0, 0, [], [])), (1234, (.iload_n 3, 1235, 0, 0, 0, [], [])), (1235, (.iconst 2, 1236, 0, 2, 0, [], [])), (1236, (.iadd, 1237, 0, 0, 0, [], [])), (1237, (.iaload, 1238, 0, 0, 0, [], [])), (1238, (.aload_n 0, 1239, 0, 0, 0, [], [])), (1239, (.iload_n 3, 1240, 0, 0, 0, [], [])), (1240, (.iconst 3, 1241, 0, 3, 0, [], [])), (1241, (.iadd, 1242, 0, 0, 0, [], [])), (1242, (.iaload, 1243, 0, 0, 0, [], [])), (1243, (.invokevirtual 176, 1246, 0, 0, 0, [], [])), (1246, (.if_icmp .eq 335, 1249, 1581, 0, 0, [], []))]
noncomputable def zI_281_39 : List (Nat × zE) := [(1249, (.iconst 0, 1250, 0, 0, 0, [], [])), (1250, (.ireturn, 1251, 0, 0, 0, [], [])), (1251, (.aload_n 1, 1252, 0, 0, 0, [], [true, true, true, true])), (1252, (.aload_n 0, 1253, 0, 0, 0, [], [])), (1253, (.iload_n 3, 1254, 0, 0, 0, [], [])), (1254, (.iconst 1, 1255, 0, 1, 0, [], [])), (1255, (.iadd, 1256, 0, 0, 0, [], [])), (1256, (.iaload, 1257, 0, 0, 0, [], [])), (1257, (.aload_n 0, 1258, 0, 0, 0, [], [])), (1258, (.iload_n 3, 1259, 0, 0, 0, [], [])), (1259, (.iconst 2, 1260, 0, 2, 0, [], [])), (1260, (.iadd, 1261, 0, 0, 0, [], [])), (1261, (.iaload, 1262, 0, 0, 0, [], [])), (1262, (.aload_n 0, 1263, 0, 0, 0, [], [])), (1263, (.iload_n 3, 1264, 0, 0, 0, [], [])), (1264, (.iconst 3, 1265, 0, 3, 0, [], [])), (1265, (.iadd, 1266, 0, 0, 0, [], [])), (1266, (.iaload, 1267, 0, 0, 0, [], [])), (1267, (.invokevirtual 177, 1270, 0, 0, 0, [], [])), (1270, (.aload_n 2, 1271, 0, 0, 0, [], [])), (1271, (.aload_n 0, 1272, 0, 0, 0, [], [])), (1272, (.iload_n 3, 1273, 0, 0, 0, [], [])), (1273, (.iconst 1, 1274, 0, 1, 0, [], [])), (1274, (.iadd, 1275, 0, 0, 0, [], [])), (1275, (.iaload, 1276, 0, 0, 0, [], [])), (1276, (.aload_n 0, 1277, 0, 0, 0, [], [])), (1277, (.iload_n 3, 1278, 0, 0, 0, [], [])), (1278, (.iconst 2, 1279, 0, 2, 0, [], [])), (1279, (.iadd, 1280, 0, 0, 0, [], []))]
noncomputable def zI_281_40 : List (Nat × zE) := [(1280, (.iaload, 1281, 0, 0, 0, [], [])), (1281, (.aload_n 0, 1282, 0, 0, 0, [], [])), (1282, (.iload_n 3, 1283, 0, 0, 0, [], [])), (1283, (.iconst 3, 1284, 0, 3, 0, [], [])), (1284, (.iadd, 1285, 0, 0, 0, [], [])), (1285, (.iaload, 1286, 0, 0, 0, [], [])), (1286, (.invokevirtual 180, 1289, 0, 0, 0, [], [])), (1289, (.if_icmp .eq 292, 1292, 1581, 0, 0, [], [])), (1292, (.iconst 0, 1293, 0, 0, 0, [], [])), (1293, (.ireturn, 1294, 0, 0, 0, [], [])), (1294, (.aload_n 1, 1295, 0, 0, 0, [], [true, true, true, true])), (1295, (.aload_n 0, 1296, 0, 0, 0, [], [])), (1296, (.iload_n 3, 1297, 0, 0, 0, [], [])), (1297, (.iconst 1, 1298, 0, 1, 0, [], [])), (1298, (.iadd, 1299, 0, 0, 0, [], [])), (1299, (.iaload, 1300, 0, 0, 0, [], [])), (1300, (.aload_n 0, 1301, 0, 0, 0, [], [])), (1301, (.iload_n 3, 1302, 0, 0, 0, [], [])), (1302, (.iconst 2, 1303, 0, 2, 0, [], [])), (1303, (.iadd, 1304, 0, 0, 0, [], [])), (1304, (.iaload, 1305, 0, 0, 0, [], [])), (1305, (.aload_n 0, 1306, 0, 0, 0, [], [])), (1306, (.iload_n 3, 1307, 0, 0, 0, [], [])), (1307, (.iconst 3, 1308, 0, 3, 0, [], [])), (1308, (.iadd, 1309, 0, 0, 0, [], [])), (1309, (.iaload, 1310, 0, 0, 0, [], [])), (1310, (.invokevirtual 181, 1313, 0, 0, 0, [], []))]
noncomputable def zI_281_41 : List (Nat × zE) := [(1313, (.aload_n 2, 1314, 0, 0, 0, [], [])), (1314, (.aload_n 0, 1315, 0, 0, 0, [], [])), (1315, (.iload_n 3, 1316, 0, 0, 0, [], [])), (1316, (.iconst 1, 1317, 0, 1, 0, [], [])), (1317, (.iadd, 1318, 0, 0, 0, [], [])), (1318, (.iaload, 1319, 0, 0, 0, [], [])), (1319, (.aload_n 0, 1320, 0, 0, 0, [], [])), (1320, (.iload_n 3, 1321, 0, 0, 0, [], [])), (1321, (.iconst 2, 1322, 0, 2, 0, [], [])), (1322, (.iadd, 1323, 0, 0, 0, [], [])), (1323, (.iaload, 1324, 0, 0, 0, [], [])), (1324, (.aload_n 0, 1325, 0, 0, 0, [], [])), (1325, (.iload_n 3, 1326, 0, 0, 0, [], [])), (1326, (.iconst 3, 1327, 0, 3, 0, [], [])), (1327, (.iadd, 1328, 0, 0, 0, [], [])), (1328, (.iaload, 1329, 0, 0, 0, [], [])), (1329, (.invokevirtual 184, 1332, 0, 0, 0, [], [])), (1332, (.if_icmp .eq 249, 1335, 1581, 0, 0, [], [])), (1335, (.iconst 0, 1336, 0, 0, 0, [], [])), (1336, (.ireturn, 1337, 0, 0, 0, [], [])), (1337, (.aload_n 1, 1338, 0, 0, 0, [], [true, true, true, true])), (1338, (.aload_n 0, 1339, 0, 0, 0, [], [])), (1339, (.iload_n 3, 1340, 0, 0, 0, [], [])), (1340, (.iconst 1, 1341, 0, 1, 0, [], [])), (1341, (.iadd, 1342, 0, 0, 0, [], [])), (1342, (.iaload, 1343, 0, 0, 0, [], [])), (1343, (.aload_n 0, 1344, 0, 0, 0, [], []))]
noncomputable def zI_281_42 : List (Nat × zE) := [(1344, (.iload_n 3, 1345, 0, 0, 0, [], [])), (1345, (.iconst 2, 1346, 0, 2, 0, [], [])), (1346, (.iadd, 1347, 0, 0, 0, [], [])), (1347, (.iaload, 1348, 0, 0, 0, [], [])), (1348, (.aload_n 0, 1349, 0, 0, 0, [], [])), (1349, (.iload_n 3, 1350, 0, 0, 0, [], [])), (1350, (.iconst 3, 1351, 0, 3, 0, [], [])), (1351, (.iadd, 1352, 0, 0, 0, [], [])), (1352, (.iaload, 1353, 0, 0, 0, [], [])), (1353, (.aload_n 0, 1354, 0, 0, 0, [], [])), (1354, (.iload_n 3, 1355, 0, 0, 0, [], [])), (1355, (.iconst 4, 1356, 0, 4, 0, [], [])), (1356, (.iadd, 1357, 0, 0, 0, [], [])), (1357, (.iaload, 1358, 0, 0, 0, [], [])), (1358, (.invokevirtual 185, 1361, 0, 0, 0, [], [])), (1361, (.aload_n 2, 1362, 0, 0, 0, [], [])), (1362, (.aload_n 0, 1363, 0, 0, 0, [], [])), (1363, (.iload_n 3, 1364, 0, 0, 0, [], [])), (1364, (.iconst 1, 1365, 0, 1, 0, [], [])), (1365, (.iadd, 1366, 0, 0, 0, [], [])), (1366, (.iaload, 1367, 0, 0, 0, [], [])), (1367, (.aload_n 0, 1368, 0, 0, 0, [], [])), (1368, (.iload_n 3, 1369, 0, 0, 0, [], [])), (1369, (.iconst 2, 1370, 0, 2, 0, [], [])), (1370, (.iadd, 1371, 0, 0, 0, [], [])), (1371, (.iaload, 1372, 0, 0, 0, [], [])), (1372, (.aload_n 0, 1373, 0, 0, 0, [], [])), (1373, (.iload_n 3, 1374, 0, 0, 0, [], [])), (1374, (.iconst 3, 1375, 0, 3, 0, [], [])), (1375, (.iadd, 1376, 0, 0, 0, [], []))]
noncomputable def zI_281_43 : List (Nat × zE) := [(1376, (.iaload, 1377, 0, 0, 0, [], [])), (1377, (.aload_n 0, 1378, 0, 0, 0, [], [])), (1378, (.iload_n 3, 1379, 0, 0, 0, [], [])), (1379, (.iconst 4, 1380, 0, 4, 0, [], [])), (1380, (.iadd, 1381, 0, 0, 0, [], [])), (1381, (.iaload, 1382, 0, 0, 0, [], [])), (1382, (.invokevirtual 188, 1385, 0, 0, 0, [], [])), (1385, (.if_icmp .eq 196, 1388, 1581, 0, 0, [], [])), (1388, (.iconst 0, 1389, 0, 0, 0, [], [])), (1389, (.ireturn, 1390, 0, 0, 0, [], [])), (1390, (.aload_n 1, 1391, 0, 0, 0, [], [true, true, true, true])), (1391, (.aload_n 0, 1392, 0, 0, 0, [], [])), (1392, (.iload_n 3, 1393, 0, 0, 0, [], [])), (1393, (.iconst 1, 1394, 0, 1, 0, [], [])), (1394, (.iadd, 1395, 0, 0, 0, [], [])), (1395, (.iaload, 1396, 0, 0, 0, [], [])), (1396, (.aload_n 0, 1397, 0, 0, 0, [], [])), (1397, (.iload_n 3, 1398, 0, 0, 0, [], [])), (1398, (.iconst 2, 1399, 0, 2, 0, [], [])), (1399, (.iadd, 1400, 0, 0, 0, [], [])), (1400, (.iaload, 1401, 0, 0, 0, [], [])), (1401, (.aload_n 0, 1402, 0, 0, 0, [], [])), (1402, (.iload_n 3, 1403, 0, 0, 0, [], [])), (1403, (.iconst 3, 1404, 0, 3, 0, [], [])), (1404, (.iadd, 1405, 0, 0, 0, [], [])), (1405, (.iaload, 1406, 0, 0, 0, [], [])), (1406, (.invokevirtual 189, 1409, 0, 0, 0, [], []))]
noncomputable def zI_281_44 : List (Nat × zE) := [(1409, (.aload_n 2, 1410, 0, 0, 0, [], [])), (1410, (.aload_n 0, 1411, 0, 0, 0, [], [])), (1411, (.iload_n 3, 1412, 0, 0, 0, [], [])), (1412, (.iconst 1, 1413, 0, 1, 0, [], [])), (1413, (.iadd, 1414, 0, 0, 0, [], [])), (1414, (.iaload, 1415, 0, 0, 0, [], [])), (1415, (.aload_n 0, 1416, 0, 0, 0, [], [])), (1416, (.iload_n 3, 1417, 0, 0, 0, [], [])), (1417, (.iconst 2, 1418, 0, 2, 0, [], [])), (1418, (.iadd, 1419, 0, 0, 0, [], [])), (1419, (.iaload, 1420, 0, 0, 0, [], [])), (1420, (.aload_n 0, 1421, 0, 0, 0, [], [])), (1421, (.iload_n 3, 1422, 0, 0, 0, [], [])), (1422, (.iconst 3, 1423, 0, 3, 0, [], [])), (1423, (.iadd, 1424, 0, 0, 0, [], [])), (1424, (.iaload, 1425, 0, 0, 0, [], [])), (1425, (.invokevirtual 192, 1428, 0, 0, 0, [], [])), (1428, (.if_icmp .eq 153, 1431, 1581, 0, 0, [], [])), (1431, (.iconst 0, 1432, 0, 0, 0, [], [])), (1432, (.ireturn, 1433, 0, 0, 0, [], [])), (1433, (.aload_n 1, 1434, 0, 0, 0, [], [true, true, true, true])), (1434, (.aload_n 0, 1435, 0, 0, 0, [], [])), (1435, (.iload_n 3, 1436, 0, 0, 0, [], [])), (1436, (.iconst 1, 1437, 0, 1, 0, [], [])), (1437, (.iadd, 1438, 0, 0, 0, [], [])), (1438, (.iaload, 1439, 0, 0, 0, [], [])), (1439, (.aload_n 0, 1440, 0, 0, 0, [], []))]
noncomputable def zI_281_45 : List (Nat × zE) := [(1440, (.iload_n 3, 1441, 0, 0, 0, [], [])), (1441, (.iconst 2, 1442, 0, 2, 0, [], [])), (1442, (.iadd, 1443, 0, 0, 0, [], [])), (1443, (.iaload, 1444, 0, 0, 0, [], [])), (1444, (.invokevirtual 193, 1447, 0, 0, 0, [], [])), (1447, (.aload_n 2, 1448, 0, 0, 0, [], [])), (1448, (.aload_n 0, 1449, 0, 0, 0, [], [])), (1449, (.iload_n 3, 1450, 0, 0, 0, [], [])), (1450, (.iconst 1, 1451, 0, 1, 0, [], [])), (1451, (.iadd, 1452, 0, 0, 0, [], [])), (1452, (.iaload, 1453, 0, 0, 0, [], [])), (1453, (.aload_n 0, 1454, 0, 0, 0, [], [])), (1454, (.iload_n 3, 1455, 0, 0, 0, [], [])), (1455, (.iconst 2, 1456, 0, 2, 0, [], [])), (1456, (.iadd, 1457, 0, 0, 0, [], [])), (1457, (.iaload, 1458, 0, 0, 0, [], [])), (1458, (.invokevirtual 196, 1461, 0, 0, 0, [], [])), (1461, (.if_icmp .eq 120, 1464, 1581, 0, 0, [], [])), (1464, (.iconst 0, 1465, 0, 0, 0, [], [])), (1465, (.ireturn, 1466, 0, 0, 0, [], [])), (1466, (.aload_n 1, 1467, 0, 0, 0, [], [true, true, true, true])), (1467, (.aload_n 0, 1468, 0, 0, 0, [], [])), (1468, (.iload_n 3, 1469, 0, 0, 0, [], [])), (1469, (.iconst 1, 1470, 0, 1, 0, [], [])), (1470, (.iadd, 1471, 0, 0, 0, [], [])), (1471, (.iaload, 1472, 0, 0, 0, [], []))]
noncomputable def zI_281_46 : List (Nat × zE) := [(1472, (.aload_n 0, 1473, 0, 0, 0, [], [])), (1473, (.iload_n 3, 1474, 0, 0, 0, [], [])), (1474, (.iconst 2, 1475, 0, 2, 0, [], [])), (1475, (.iadd, 1476, 0, 0, 0, [], [])), (1476, (.iaload, 1477, 0, 0, 0, [], [])), (1477, (.aload_n 0, 1478, 0, 0, 0, [], [])), (1478, (.iload_n 3, 1479, 0, 0, 0, [], [])), (1479, (.iconst 3, 1480, 0, 3, 0, [], [])), (1480, (.iadd, 1481, 0, 0, 0, [], [])), (1481, (.iaload, 1482, 0, 0, 0, [], [])), (1482, (.invokevirtual 197, 1485, 0, 0, 0, [], [])), (1485, (.aload_n 2, 1486, 0, 0, 0, [], [])), (1486, (.aload_n 0, 1487, 0, 0, 0, [], [])), (1487, (.iload_n 3, 1488, 0, 0, 0, [], [])), (1488, (.iconst 1, 1489, 0, 1, 0, [], [])), (1489, (.iadd, 1490, 0, 0, 0, [], [])), (1490, (.iaload, 1491, 0, 0, 0, [], [])), (1491, (.aload_n 0, 1492, 0, 0, 0, [], [])), (1492, (.iload_n 3, 1493, 0, 0, 0, [], [])), (1493, (.iconst 2, 1494, 0, 2, 0, [], [])), (1494, (.iadd, 1495, 0, 0, 0, [], [])), (1495, (.iaload, 1496, 0, 0, 0, [], [])), (1496, (.aload_n 0, 1497, 0, 0, 0, [], [])), (1497, (.iload_n 3, 1498, 0, 0, 0, [], [])), (1498, (.iconst 3, 1499, 0, 3, 0, [], [])), (1499, (.iadd, 1500, 0, 0, 0, [], [])), (1500, (.iaload, 1501, 0, 0, 0, [], [])), (1501, (.invokevirtual 200, 1504, 0, 0, 0, [], []))]
noncomputable def zI_281_47 : List (Nat × zE) := [(1504, (.if_icmp .eq 77, 1507, 1581, 0, 0, [], [])), (1507, (.iconst 0, 1508, 0, 0, 0, [], [])), (1508, (.ireturn, 1509, 0, 0, 0, [], [])), (1509, (.aload_n 1, 1510, 0, 0, 0, [], [true, true, true, true])), (1510, (.aload_n 0, 1511, 0, 0, 0, [], [])), (1511, (.iload_n 3, 1512, 0, 0, 0, [], [])), (1512, (.iconst 1, 1513, 0, 1, 0, [], [])), (1513, (.iadd, 1514, 0, 0, 0, [], [])), (1514, (.iaload, 1515, 0, 0, 0, [], [])), (1515, (.invokevirtual 201, 1518, 0, 0, 0, [], [])), (1518, (.aload_n 2, 1519, 0, 0, 0, [], [])), (1519, (.aload_n 0, 1520, 0, 0, 0, [], [])), (1520, (.iload_n 3, 1521, 0, 0, 0, [], [])), (1521, (.iconst 1, 1522, 0, 1, 0, [], [])), (1522, (.iadd, 1523, 0, 0, 0, [], [])), (1523, (.iaload, 1524, 0, 0, 0, [], [])), (1524, (.invokevirtual 204, 1527, 0, 0, 0, [], [])), (1527, (.if_icmp .eq 54, 1530, 1581, 0, 0, [], [])), (1530, (.iconst 0, 1531, 0, 0, 0, [], [])), (1531, (.ireturn, 1532, 0, 0, 0, [], [])), (1532, (.aload_n 1, 1533, 0, 0, 0, [], [true, true, true, true])), (1533, (.aload_n 0, 1534, 0, 0, 0, [], [])), (1534, (.iload_n 3, 1535, 0, 0, 0, [], [])), (1535, (.iconst 1, 1536, 0, 1, 0, [], []))]
noncomputable def zI_281_48 : List (Nat × zE) := [(1536, (.iadd, 1537, 0, 0, 0, [], [])), (1537, (.iaload, 1538, 0, 0, 0, [], [])), (1538, (.invokevirtual 205, 1541, 0, 0, 0, [], [])), (1541, (.aload_n 2, 1542, 0, 0, 0, [], [])), (1542, (.aload_n 0, 1543, 0, 0, 0, [], [])), (1543, (.iload_n 3, 1544, 0, 0, 0, [], [])), (1544, (.iconst 1, 1545, 0, 1, 0, [], [])), (1545, (.iadd, 1546, 0, 0, 0, [], [])), (1546, (.iaload, 1547, 0, 0, 0, [], [])), (1547, (.invokevirtual 208, 1550, 0, 0, 0, [], [])), (1550, (.if_icmp .eq 31, 1553, 1581, 0, 0, [], [])), (1553, (.iconst 0, 1554, 0, 0, 0, [], [])), (1554, (.ireturn, 1555, 0, 0, 0, [], [])), (1555, (.aload_n 1, 1556, 0, 0, 0, [], [true, true, true, true])), (1556, (.invokevirtual 209, 1559, 0, 0, 0, [], [])), (1559, (.aload_n 2, 1560, 0, 0, 0, [], [])), (1560, (.invokevirtual 212, 1563, 0, 0, 0, [], [])), (1563, (.if_icmp .eq 18, 1566, 1581, 0, 0, [], [])), (1566, (.iconst 0, 1567, 0, 0, 0, [], [])), (1567, (.ireturn, 1568, 0, 0, 0, [], []))]
noncomputable def zI_281_49 : List (Nat × zE) := [(1568, (.aload_n 1, 1569, 0, 0, 0, [], [true, true, true, true])), (1569, (.invokevirtual 213, 1572, 0, 0, 0, [], [])), (1572, (.aload_n 2, 1573, 0, 0, 0, [], [])), (1573, (.invokevirtual 216, 1576, 0, 0, 0, [], [])), (1576, (.if_icmp .eq 5, 1579, 1581, 0, 0, [], [])), (1579, (.iconst 0, 1580, 0, 0, 0, [], [])), (1580, (.ireturn, 1581, 0, 0, 0, [], [])), (1581, (.iinc 3 5, 1584, 0, 5, 0, [], [true, true, true, true])), (1584, (.goto (-1566), 1587, 18, 0, 0, [], [])), (1587, (.iconst 1, 1588, 0, 1, 0, [], [])), (1588, (.ireturn, 1589, 0, 0, 0, [], []))]
noncomputable def zI_281 : List (List (Nat × zE)) := [zI_281_0, zI_281_1, zI_281_2, zI_281_3, zI_281_4, zI_281_5, zI_281_6, zI_281_7, zI_281_8, zI_281_9, zI_281_10, zI_281_11, zI_281_12, zI_281_13, zI_281_14, zI_281_15, zI_281_16, zI_281_17, zI_281_18, zI_281_19, zI_281_20, zI_281_21, zI_281_22, zI_281_23, zI_281_24, zI_281_25, zI_281_26, zI_281_27, zI_281_28, zI_281_29, zI_281_30, zI_281_31, zI_281_32, zI_281_33, zI_281_34, zI_281_35, zI_281_36, zI_281_37, zI_281_38, zI_281_39, zI_281_40, zI_281_41, zI_281_42, zI_281_43, zI_281_44, zI_281_45, zI_281_46, zI_281_47, zI_281_48, zI_281_49]
noncomputable abbrev zT_281 : zT := (15, zI_281, 3, 4) -- L_law
noncomputable def zTL : List zT := [zT_0, zT_1, zT_2, zT_3, zT_4, zT_5, zT_6, zT_7, zT_8, zT_9, zT_10, zT_11, zT_12, zT_13, zT_14, zT_15, zT_16, zT_17, zT_18, zT_19, zT_20, zT_21, zT_22, zT_23, zT_24, zT_25, zT_26, zT_27, zT_28, zT_29, zT_30, zT_31, zT_32, zT_33, zT_34, zT_35, zT_36, zT_37, zT_38, zT_39, zT_40, zT_41, zT_42, zT_43, zT_44, zT_45, zT_46, zT_47, zT_48, zT_49, zT_50, zT_51, zT_52, zT_53, zT_54, zT_55, zT_56, zT_57, zT_58, zT_59, zT_60, zT_61, zT_62, zT_63, zT_64, zT_65, zT_66, zT_67, zT_68, zT_69, zT_70, zT_71, zT_72, zT_73, zT_74, zT_75, zT_76, zT_77, zT_78, zT_79, zT_80, zT_81, zT_82, zT_83, zT_84, zT_85, zT_86, zT_87, zT_88, zT_89, zT_90, zT_91, zT_92, zT_93, zT_94, zT_95, zT_96, zT_97, zT_98, zT_99, zT_100, zT_101, zT_102, zT_103, zT_104, zT_105, zT_106, zT_107, zT_108, zT_109, zT_110, zT_111, zT_112, zT_113, zT_114, zT_115, zT_116, zT_117, zT_118, zT_119, zT_120, zT_121, zT_122, zT_123, zT_124, zT_125, zT_126, zT_127, zT_128, zT_129, zT_130, zT_131, zT_132, zT_133, zT_134, zT_135, zT_136, zT_137, zT_138, zT_139, zT_140, zT_141, zT_142, zT_143, zT_144, zT_145, zT_146, zT_147, zT_148, zT_149, zT_150, zT_151, zT_152, zT_153, zT_154, zT_155, zT_156, zT_157, zT_158, zT_159, zT_160, zT_161, zT_162, zT_163, zT_164, zT_165, zT_166, zT_167, zT_168, zT_169, zT_170, zT_171, zT_172, zT_173, zT_174, zT_175, zT_176, zT_177, zT_178, zT_179, zT_180, zT_181, zT_182, zT_183, zT_184, zT_185, zT_186, zT_187, zT_188, zT_189, zT_190, zT_191, zT_192, zT_193, zT_194, zT_195, zT_196, zT_197, zT_198, zT_199, zT_200, zT_201, zT_202, zT_203, zT_204, zT_205, zT_206, zT_207, zT_208, zT_209, zT_210, zT_211, zT_212, zT_213, zT_214, zT_215, zT_216, zT_217, zT_218, zT_219, zT_220, zT_221, zT_222, zT_223, zT_224, zT_225, zT_226, zT_227, zT_228, zT_229, zT_230, zT_231, zT_232, zT_233, zT_234, zT_235, zT_236, zT_237, zT_238, zT_239, zT_240, zT_241, zT_242, zT_243, zT_244, zT_245, zT_246, zT_247, zT_248, zT_249, zT_250, zT_251, zT_252, zT_253, zT_254, zT_255, zT_256, zT_257, zT_258, zT_259, zT_260, zT_261, zT_262, zT_263, zT_264, zT_265, zT_266, zT_267, zT_268, zT_269, zT_270, zT_271, zT_272, zT_273, zT_274, zT_275, zT_276, zT_277, zT_278, zT_279, zT_280, zT_281]
abbrev zNAC : Nat := 282
end
section
/-- a step ends here, or goes on at one place -/
def zFa (F : zKt → zR) : Prop := (∃ r, ∀ K, F K = r) ∨ (∃ pc ls st σ, ∀ K, F K = K pc ls st σ)
theorem zFa_c {r : zR} : zFa (fun _ => r) := Or.inl ⟨r, fun _ => rfl⟩
theorem zFa_k {pc ls st σ} : zFa (fun K => K pc ls st σ) := Or.inr ⟨pc, ls, st, σ, fun _ => rfl⟩
theorem zFa_b {b : Bool} {F G : zKt → zR} (hF : zFa F) (hG : zFa G) : zFa (fun K => bif b then F K else G K) := by
  cases b
  · exact hG
  · exact hF
theorem zFa_z {b : Bool} {F G : zKt → zR} (hF : zFa F) (hG : zFa G) : zFa (fun K => zcb b (F K) (G K)) := by
  cases b
  · exact hG
  · exact hF
theorem zFa_g {b : Bool} {F : zKt → zR} (hF : zFa F) : zFa (fun K => zgd b (F K)) := by
  simp only [zgd_eq]
  exact zFa_z hF zFa_c
theorem zFa_i {P : Prop} {h : Decidable P} {F G : zKt → zR} (hF : zFa F) (hG : zFa G) : zFa (fun K => @ite _ P h (F K) (G K)) := by
  by_cases q : P
  · simp only [if_pos q]; exact hF
  · simp only [if_neg q]; exact hG
theorem zFa_o1 {st} {f : zKt → Int32 → List zV → zR} (h : ∀ x r, zFa (fun K => f K x r)) : zFa (fun K => zo1 st (f K)) := by
  unfold zo1; split
  · exact h _ _
  · exact zFa_c
theorem zFa_o2 {st} {f : zKt → Int32 → Int32 → List zV → zR} (h : ∀ y x r, zFa (fun K => f K y x r)) : zFa (fun K => zo2 st (f K)) := by
  unfold zo2; split
  · exact h _ _ _
  · exact zFa_c
theorem zFa_l1 {st} {f : zKt → Int64 → List zV → zR} (h : ∀ x r, zFa (fun K => f K x r)) : zFa (fun K => zl1 st (f K)) := by
  unfold zl1; split
  · exact h _ _
  · exact zFa_c
theorem zFa_l2 {st} {f : zKt → Int64 → Int64 → List zV → zR} (h : ∀ y x r, zFa (fun K => f K y x r)) : zFa (fun K => zl2 st (f K)) := by
  unfold zl2; split
  · exact h _ _ _
  · exact zFa_c
theorem zFa_li {st} {f : zKt → Int32 → Int64 → List zV → zR} (h : ∀ y x r, zFa (fun K => f K y x r)) : zFa (fun K => zli st (f K)) := by
  unfold zli; split
  · exact h _ _ _
  · exact zFa_c
theorem zFa_r1 {st} {f : zKt → Nat → Nat → List zV → zR} (h : ∀ y x r, zFa (fun K => f K y x r)) : zFa (fun K => zr1 st (f K)) := by
  unfold zr1; split
  · exact h _ _ _
  · exact zFa_c
theorem zFa_ir {st} {f : zKt → Int32 → Nat → Nat → List zV → zR} (h : ∀ i y x r, zFa (fun K => f K i y x r)) : zFa (fun K => zir st (f K)) := by
  unfold zir; split
  · exact h _ _ _ _
  · exact zFa_c
theorem zFa_iir {st} {f : zKt → Int32 → Int32 → Nat → Nat → List zV → zR} (h : ∀ v i y x r, zFa (fun K => f K v i y x r)) : zFa (fun K => ziir st (f K)) := by
  unfold ziir; split
  · exact h _ _ _ _ _
  · exact zFa_c
theorem zFa_lir {st} {f : zKt → Int64 → Int32 → Nat → Nat → List zV → zR} (h : ∀ v i y x r, zFa (fun K => f K v i y x r)) : zFa (fun K => zlir st (f K)) := by
  unfold zlir; split
  · exact h _ _ _ _ _
  · exact zFa_c
theorem zFa_vI {v} {f : zKt → Int32 → zR} (h : ∀ x, zFa (fun K => f K x)) : zFa (fun K => zvI v (f K)) := by
  unfold zvI; split
  · exact h _
  · exact zFa_c
theorem zFa_vL {v} {f : zKt → Int64 → zR} (h : ∀ x, zFa (fun K => f K x)) : zFa (fun K => zvL v (f K)) := by
  unfold zvL; split
  · exact h _
  · exact zFa_c
theorem zFa_vR {v} {f : zKt → Nat → Nat → zR} (h : ∀ g x, zFa (fun K => f K g x)) : zFa (fun K => zvR v (f K)) := by
  unfold zvR; split
  · exact h _ _
  · exact zFa_c
theorem zFa_sw {x df l} {f : zKt → Nat → zR} (h : ∀ t, zFa (fun K => f K t)) : zFa (fun K => zsw (f K) x df l) := by
  induction l with
  | nil => exact h df
  | cons a l ih =>
    obtain ⟨v, t⟩ := a
    unfold zsw
    exact zFa_i (h t) ih
theorem zFa_cal {rk nx ls rest x} : zFa (fun K => zcal rk nx K ls rest x) := by
  unfold zcal; split <;> exact zFa_k
theorem zFa_inv {C : zC} {own nx i ls st σ} : zFa (fun K => zinv C own nx i K ls st σ) := by
  unfold zinv
  cases zmd own i with
  | none => exact zFa_c
  | some q =>
    obtain ⟨j, n, rc⟩ := q
    dsimp only
    cases zpop n st [] with
    | none => exact zFa_c
    | some w =>
      obtain ⟨as, rest⟩ := w
      refine zFa_z ?_ zFa_c
      cases C j as σ with
      | none => exact zFa_c
      | some x => exact zFa_cal
theorem zFa_op {C : zC} {own rk ls st σ} (e : zE) : zFa (fun K => zop C own rk K ls st σ e) := by
  obtain ⟨ins, nx, tg, c, d, sw, mk⟩ := e
  cases ins
  case ifCond cnd off => cases cnd <;> exact zFa_o1 fun _ _ => zFa_i zFa_k zFa_k
  case if_icmp cnd off => cases cnd <;> exact zFa_o2 fun _ _ _ => zFa_i zFa_k zFa_k
  case iadd => exact zFa_o2 fun _ _ _ => zFa_k
  case isub => exact zFa_o2 fun _ _ _ => zFa_k
  case imul => exact zFa_o2 fun _ _ _ => zFa_k
  case iand => exact zFa_o2 fun _ _ _ => zFa_k
  case ior => exact zFa_o2 fun _ _ _ => zFa_k
  case ixor => exact zFa_o2 fun _ _ _ => zFa_k
  case ishl => exact zFa_o2 fun _ _ _ => zFa_k
  case ishr => exact zFa_o2 fun _ _ _ => zFa_k
  case iushr => exact zFa_o2 fun _ _ _ => zFa_k
  case idiv => exact zFa_o2 fun _ _ _ => zFa_i zFa_c zFa_k
  case irem => exact zFa_o2 fun _ _ _ => zFa_i zFa_c zFa_k
  case ineg => exact zFa_o1 fun _ _ => zFa_k
  case i2l => exact zFa_o1 fun _ _ => zFa_k
  case i2b => exact zFa_o1 fun _ _ => zFa_k
  case i2s => exact zFa_o1 fun _ _ => zFa_k
  case i2c => exact zFa_o1 fun _ _ => zFa_k
  case istore => exact zFa_o1 fun _ _ => zFa_k
  case istore_n => exact zFa_o1 fun _ _ => zFa_k
  case lstore_n => exact zFa_l1 fun _ _ => zFa_k
  case l2i => exact zFa_l1 fun _ _ => zFa_k
  case ladd => exact zFa_l2 fun _ _ _ => zFa_k
  case lmul => exact zFa_l2 fun _ _ _ => zFa_k
  case land => exact zFa_l2 fun _ _ _ => zFa_k
  case lor => exact zFa_l2 fun _ _ _ => zFa_k
  case lcmp => exact zFa_l2 fun _ _ _ => zFa_k
  case lshl => exact zFa_li fun _ _ _ => zFa_k
  case lshr => exact zFa_li fun _ _ _ => zFa_k
  case lushr => exact zFa_li fun _ _ _ => zFa_k
  case iload => exact zFa_vI fun _ => zFa_k
  case iload_n => exact zFa_vI fun _ => zFa_k
  case iinc => exact zFa_vI fun _ => zFa_k
  case lload => exact zFa_vL fun _ => zFa_k
  case lload_n => exact zFa_vL fun _ => zFa_k
  case aload_n => exact zFa_vR fun _ _ => zFa_k
  case iconst => exact zFa_k
  case bipush => exact zFa_k
  case sipush => exact zFa_k
  case lconst => exact zFa_k
  case ldc_w => exact zFa_k
  case ldc2_w => exact zFa_k
  case goto => exact zFa_k
  case ldc i =>
    simp only [zop]
    split <;> exact zFa_k
  case dup =>
    simp only [zop]
    split <;> first | exact zFa_k | exact zFa_c
  case pop =>
    simp only [zop]
    split <;> first | exact zFa_k | exact zFa_c
  case dup2 => exact zFa_ir fun _ _ _ _ => zFa_k
  case tableswitch => exact zFa_o1 fun _ _ => zFa_sw fun _ => zFa_k
  case lookupswitch => exact zFa_o1 fun _ _ => zFa_sw fun _ => zFa_k
  case invokevirtual => exact zFa_inv
  case invokestatic => exact zFa_inv
  case ireturn =>
    simp only [zop]
    split
    · split <;> exact zFa_c
    · exact zFa_c
  case lreturn =>
    simp only [zop]
    split <;> exact zFa_c
  case return_ =>
    simp only [zop]
    split <;> exact zFa_c
  case getfield i =>
    refine zFa_r1 fun g k r => ?_
    split
    · exact zFa_c
    · split
      · refine zFa_z ?_ zFa_c
        split <;> exact zFa_k
      · refine zFa_z ?_ zFa_c
        split <;> exact zFa_k
      · exact zFa_c
  case putfield i =>
    simp only [zop]
    split
    · split
      · exact zFa_c
      · split
        · exact zFa_z (zFa_z (zFa_g zFa_k) zFa_k) zFa_c
        · exact zFa_c
    · exact zFa_c
  case getstatic i =>
    simp only [zop]
    split <;> first | exact zFa_k | exact zFa_c
  case iaload =>
    refine zFa_ir fun i g k r => ?_
    split
    · split
      · exact zFa_g zFa_k
      · exact zFa_z zFa_k zFa_c
    · exact zFa_g zFa_k
    · exact zFa_c
  case laload =>
    refine zFa_ir fun i g k r => ?_
    split <;> first | exact zFa_g zFa_k | exact zFa_c
  case aaload =>
    refine zFa_ir fun i g k r => ?_
    split <;> first | exact zFa_g zFa_k | exact zFa_c
  case baload =>
    refine zFa_ir fun i g k r => ?_
    split <;> first | exact zFa_g zFa_k | exact zFa_c
  case iastore =>
    refine zFa_iir fun v i g k r => ?_
    split
    · split
      · exact zFa_g zFa_k
      · exact zFa_z zFa_k zFa_c
    · exact zFa_c
  case lastore =>
    refine zFa_lir fun v i g k r => ?_
    split <;> first | exact zFa_g zFa_k | exact zFa_c
  case arraylength =>
    refine zFa_r1 fun g k r => ?_
    split <;> first | exact zFa_k | exact zFa_c
  all_goals exact zFa_c
theorem zFa_st {C : zC} {T : zT} {pc ls st σ} : zFa (fun K => zst C T K pc ls st σ) := by
  unfold zst
  split
  · exact zFa_c
  · exact zFa_op _
theorem zrF_mono {C : zC} {T : zT} : ∀ (n : Nat) {pc ls st σ r}, zrF C T n pc ls st σ = some r → zrF C T (n + 1) pc ls st σ = some r
  | 0, _, _, _, _, _, h => by cases h
  | n + 1, pc, ls, st, σ, r, h => by
    rcases zFa_st (C := C) (T := T) (pc := pc) (ls := ls) (st := st) (σ := σ) with ⟨q, hq⟩ | ⟨p2, l2, s2, m2, hq⟩
    · exact (hq (zrF C T (n + 1))).trans ((hq (zrF C T n)).symm.trans h)
    · exact (hq (zrF C T (n + 1))).trans (zrF_mono n ((hq (zrF C T n)).symm.trans h))
theorem zrF_add {C : zC} {T : zT} {n : Nat} {pc ls st σ r} (h : zrF C T n pc ls st σ = some r) : ∀ k, zrF C T (n + k) pc ls st σ = some r
  | 0 => h
  | k + 1 => zrF_mono (n + k) (zrF_add h k)
theorem zrF_det {C : zC} {T : zT} {n m : Nat} {pc ls st σ r q} (h : zrF C T n pc ls st σ = some r) (h2 : zrF C T m pc ls st σ = some q) : r = q := by
  have a := zrF_add h m
  have b := zrF_add h2 n
  rw [Nat.add_comm] at b
  exact Option.some.inj (a.symm.trans b)
theorem zrun_of {C : zC} {T : zT} {n : Nat} {pc ls st σ r} (h : zrF C T n pc ls st σ = some r) : zrun C T pc ls st σ = some r := by
  have hx : ∃ r, ∃ n, zrF C T n pc ls st σ = some r := ⟨r, n, h⟩
  have e : zrun C T pc ls st σ = some (Classical.choose hx) := by
    unfold zrun
    exact dif_pos hx
  obtain ⟨m, hm⟩ := Classical.choose_spec hx
  rw [e, zrF_det hm h]
theorem zrun_some {C : zC} {T : zT} {pc ls st σ r} (h : zrun C T pc ls st σ = some r) : ∃ n, zrF C T n pc ls st σ = some r := by
  by_cases hx : ∃ r, ∃ n, zrF C T n pc ls st σ = some r
  · obtain ⟨q, n, hq⟩ := hx
    rw [zrun_of hq] at h
    exact ⟨n, by rw [hq]; exact h⟩
  · unfold zrun at h
    rw [dif_neg hx] at h
    cases h
theorem zrun_none {C : zC} {T : zT} {pc ls st σ} (h : ∀ n, zrF C T n pc ls st σ = none) : zrun C T pc ls st σ = none := by
  cases e : zrun C T pc ls st σ with
  | none => rfl
  | some r =>
    obtain ⟨n, hn⟩ := zrun_some e
    rw [h n] at hn
    cases hn
theorem zrun_step (C : zC) (T : zT) (pc ls st σ) : zrun C T pc ls st σ = zst C T (zrun C T) pc ls st σ := by
  rcases zFa_st (C := C) (T := T) (pc := pc) (ls := ls) (st := st) (σ := σ) with ⟨q, hq⟩ | ⟨p2, l2, s2, m2, hq⟩
  · rw [show zst C T (zrun C T) pc ls st σ = q from hq _]
    cases q with
    | none =>
      refine zrun_none fun n => ?_
      cases n with
      | zero => rfl
      | succ n => exact hq _
    | some r => exact zrun_of (n := 1) (hq _)
  · rw [show zst C T (zrun C T) pc ls st σ = zrun C T p2 l2 s2 m2 from hq _]
    cases e : zrun C T p2 l2 s2 m2 with
    | some r =>
      obtain ⟨n, hn⟩ := zrun_some e
      exact zrun_of (n := n + 1) ((hq _).trans hn)
    | none =>
      refine zrun_none fun n => ?_
      cases n with
      | zero => rfl
      | succ n =>
        refine (hq _).trans ?_
        cases e2 : zrF C T n p2 l2 s2 m2 with
        | none => rfl
        | some r => rw [zrun_of e2] at e; cases e
theorem zit_run (C : zC) (T : zT) (cuts : List Nat) : ∀ n pc ls st σ, zit C T cuts n pc ls st σ = zrun C T pc ls st σ
  | 0, _, _, _, _ => rfl
  | n + 1, pc, ls, st, σ => by
    show zcb (cuts.any (Nat.beq pc)) (zrun C T pc ls st σ) (zst C T (zit C T cuts n) pc ls st σ) = _
    cases cuts.any (Nat.beq pc)
    · show zst C T (zit C T cuts n) pc ls st σ = _
      rw [zrun_step, show zit C T cuts n = zrun C T from funext fun a => funext fun b => funext fun c => funext fun d => zit_run C T cuts n a b c d]
    · rfl
theorem zrun_eq (C : zC) (T : zT) (cuts : List Nat) (n : Nat) (pc ls st σ) : zrun C T pc ls st σ = zst C T (zit C T cuts n) pc ls st σ := by
  rw [zrun_step, show zit C T cuts n = zrun C T from funext fun a => funext fun b => funext fun c => funext fun d => zit_run C T cuts n a b c d]
/-- a method's locals at its start -/
def zent : List zV → List (Option zV)
  | [] => []
  | .inr (.inl x) :: r => some (.inr (.inl x)) :: none :: zent r
  | v :: r => some v :: zent r
def zpad (n : Nat) (l : zL) : zL := l ++ List.replicate (n - l.length) none
/-- System.arraycopy over ints -/
def zcop (σ : zM) (g k sp g2 k2 dp n : Nat) : zM := (fun g' k' i' => if g' = g2 ∧ k' = k2 ∧ dp ≤ i' ∧ i' < dp + n then σ.1 g k (sp + (i' - dp)) else σ.1 g' k' i', σ.2)
def zcopy : List zV → zM → zR
  | [.inr (.inr (g, k)), .inl sp, .inr (.inr (g2, k2)), .inl dp, .inl n], σ => match zkd k, zkd k2 with
    | (1, a), (1, b) => bif decide (0 ≤ sp) && decide (0 ≤ dp) && decide (0 ≤ n) && Nat.ble (sp.toNatClampNeg + n.toNatClampNeg) a && Nat.ble (dp.toNatClampNeg + n.toNatClampNeg) b then some (0, 0, zcop σ g k sp.toNatClampNeg g2 k2 dp.toNatClampNeg n.toNatClampNeg) else none
    | _, _ => none
  | _, _ => none
/-- a call of method j, d calls deep at most -/
noncomputable def zev : Nat → zC
  | 0 => fun _ _ _ => none
  | d + 1 => fun j as σ => bif Nat.beq j zNAC then zcopy as σ else match zTL[j]? with
    | none => none
    | some T => zrun (zev d) T 0 (zpad T.2.2.2 (zent as)) [] σ
theorem zev_m {d j : Nat} {T : zT} {as σ} (h : zTL[j]? = some T) (hj : Nat.beq j zNAC = false) : zev (d + 1) j as σ = zrun (zev d) T 0 (zpad T.2.2.2 (zent as)) [] σ := by
  show (bif Nat.beq j zNAC then zcopy as σ else _) = _
  rw [hj, h]
  rfl
end
section
set_option maxRecDepth 20000
set_option linter.unusedVariables false
/-- X0_take (III)V -/
theorem ez_0 (d : Nat) (p0 : Int32) (p1 : Int32) (p2 : Int32) (σ : zM) : zev (d + 1) 0 [.inr (.inr (0, 49)), .inl p0, .inl p1, .inl p2] σ = (fun C : zC => (zgd (z01 0) (some (0, 0, zwI (zwI (zwI (zwI σ 0 49 3 p0) 0 49 4 p1) 0 49 5 p2) 0 49 2 0)) : zR)) (zev d) :=
  (zev_m (T := zT_0) rfl rfl).trans ((zrun_eq (zev d) zT_0 [] 18 _ _ _ _).trans (by rfl))

/-- X0_begin (I)V -/
theorem ez_1 (d : Nat) (p0 : Int32) (σ : zM) : zev (d + 1) 1 [.inr (.inr (0, 49)), .inl p0] σ = (fun C : zC => (if (σ.1 0 49 2) = 0 then (if (σ.1 0 49 0) < 30 then (zgd (zin (σ.1 0 49 0) 30) (some (0, 0, zwI (zwI σ 0 50 (Int32.toNatClampNeg (σ.1 0 49 0)) p0) 0 49 0 (((zwI σ 0 50 (Int32.toNatClampNeg (σ.1 0 49 0)) p0).1 0 49 0) + 1)))) else (some (0, 0, σ))) else (some (0, 0, σ)) : zR)) (zev d) :=
  (zev_m (T := zT_1) rfl rfl).trans ((zrun_eq (zev d) zT_1 [] 25 _ _ _ _).trans (by rfl))

/-- X0_sways (I)I -/
theorem ez_2 (d : Nat) (p0 : Int32) (σ : zM) : zev (d + 1) 2 [.inr (.inr (0, 49)), .inl p0] σ = (fun C : zC => (if (σ.1 0 49 3) = 1 then ((C 1 [.inr (.inr (0, 49)), .inl 20] σ).bind fun x0 => (C 6 [.inr (.inr (0, 49)), .inl p0] x0.2.2).bind fun x1 => some ((x1.1 * 3), 0, x1.2.2)) else if (σ.1 0 49 3) = 3 then ((C 1 [.inr (.inr (0, 49)), .inl 50] σ).bind fun x2 => (C 6 [.inr (.inr (0, 49)), .inl p0] x2.2.2).bind fun x3 => some ((x3.1 ^^^ (x3.2.2.1 0 49 4)), 0, x3.2.2)) else ((C 6 [.inr (.inr (0, 49)), .inl p0] σ).bind fun x4 => some (x4.1, 0, x4.2.2)) : zR)) (zev d) :=
  (zev_m (T := zT_2) rfl rfl).trans ((zrun_eq (zev d) zT_2 [] 31 _ _ _ _).trans (by rfl))

/-- X0_bends (I)I -/
theorem ez_3 (d : Nat) (p0 : Int32) (σ : zM) : zev (d + 1) 3 [.inr (.inr (0, 49)), .inl p0] σ = (fun C : zC => (if (σ.1 0 49 3) = 2 then ((C 1 [.inr (.inr (0, 49)), .inl 30] σ).bind fun x0 => (C 7 [.inr (.inr (0, 49)), .inl p0] x0.2.2).bind fun x1 => some ((x1.1 - (x1.2.2.1 0 49 5)), 0, x1.2.2)) else if (σ.1 0 49 3) = 3 then ((C 1 [.inr (.inr (0, 49)), .inl 30] σ).bind fun x2 => (C 7 [.inr (.inr (0, 49)), .inl p0] x2.2.2).bind fun x3 => some ((x3.1 - (x3.2.2.1 0 49 5)), 0, x3.2.2)) else if (σ.1 0 49 3) = 4 then ((C 7 [.inr (.inr (0, 49)), .inl p0] σ).bind fun x4 => some (x4.1, 0, x4.2.2)) else if (σ.1 0 49 3) = 5 then ((C 1 [.inr (.inr (0, 49)), .inl 60] σ).bind fun x5 => (C 7 [.inr (.inr (0, 49)), .inl p0] x5.2.2).bind fun x6 => some ((0 - x6.1), 0, x6.2.2)) else ((C 7 [.inr (.inr (0, 49)), .inl p0] σ).bind fun x7 => some (x7.1, 0, x7.2.2)) : zR)) (zev d) :=
  (zev_m (T := zT_3) rfl rfl).trans ((zrun_eq (zev d) zT_3 [] 31 _ _ _ _).trans (by rfl))

/-- X0_shares (I)I -/
theorem ez_4 (d : Nat) (p0 : Int32) (σ : zM) : zev (d + 1) 4 [.inr (.inr (0, 49)), .inl p0] σ = (fun C : zC => (if (σ.1 0 49 3) = 4 then ((C 8 [.inr (.inr (0, 49)), .inl p0] σ).bind fun x0 => some (x0.1, 0, x0.2.2)) else if (σ.1 0 49 3) = 5 then ((C 1 [.inr (.inr (0, 49)), .inl 61] σ).bind fun x1 => (C 8 [.inr (.inr (0, 49)), .inl p0] x1.2.2).bind fun x2 => (C 2 [.inr (.inr (0, 49)), .inl (x2.2.2.1 0 49 5)] x2.2.2).bind fun x3 => some ((x2.1 + x3.1), 0, x3.2.2)) else ((C 9 [.inr (.inr (0, 49)), .inl p0] σ).bind fun x4 => some (x4.1, 0, x4.2.2)) : zR)) (zev d) :=
  (zev_m (T := zT_4) rfl rfl).trans ((zrun_eq (zev d) zT_4 [] 28 _ _ _ _).trans (by rfl))

/-- X0_tells (I)I -/
theorem ez_5 (d : Nat) (p0 : Int32) (σ : zM) : zev (d + 1) 5 [.inr (.inr (0, 49)), .inl p0] σ = (fun C : zC => (if (σ.1 0 49 3) = 3 then ((C 1 [.inr (.inr (0, 49)), .inl 51] σ).bind fun x0 => (C 10 [.inr (.inr (0, 49)), .inl p0] x0.2.2).bind fun x1 => (C 4 [.inr (.inr (0, 49)), .inl (x1.2.2.1 0 49 4)] x1.2.2).bind fun x2 => some ((x1.1 + x2.1), 0, x2.2.2)) else ((C 10 [.inr (.inr (0, 49)), .inl p0] σ).bind fun x3 => some (x3.1, 0, x3.2.2)) : zR)) (zev d) :=
  (zev_m (T := zT_5) rfl rfl).trans ((zrun_eq (zev d) zT_5 [] 25 _ _ _ _).trans (by rfl))

/-- X0_plainSways (I)I -/
theorem ez_6 (d : Nat) (p0 : Int32) (σ : zM) : zev (d + 1) 6 [.inr (.inr (0, 49)), .inl p0] σ = (fun C : zC => ((C 1 [.inr (.inr (0, 49)), .inl 10] σ).bind fun x0 => some ((p0 + (x0.2.2.1 0 49 4)), 0, x0.2.2) : zR)) (zev d) :=
  (zev_m (T := zT_6) rfl rfl).trans ((zrun_eq (zev d) zT_6 [] 13 _ _ _ _).trans (by rfl))

/-- X0_plainBends (I)I -/
theorem ez_7 (d : Nat) (p0 : Int32) (σ : zM) : zev (d + 1) 7 [.inr (.inr (0, 49)), .inl p0] σ = (fun C : zC => ((C 1 [.inr (.inr (0, 49)), .inl 11] σ).bind fun x0 => (C 2 [.inr (.inr (0, 49)), .inl p0] x0.2.2).bind fun x1 => some ((x1.1 * 2), 0, x1.2.2) : zR)) (zev d) :=
  (zev_m (T := zT_7) rfl rfl).trans ((zrun_eq (zev d) zT_7 [] 14 _ _ _ _).trans (by rfl))

/-- X0_proppedShares (I)I -/
theorem ez_8 (d : Nat) (p0 : Int32) (σ : zM) : zev (d + 1) 8 [.inr (.inr (0, 49)), .inl p0] σ = (fun C : zC => ((C 1 [.inr (.inr (0, 49)), .inl 40] σ).bind fun x0 => (C 9 [.inr (.inr (0, 49)), .inl (p0 + 1)] x0.2.2).bind fun x1 => some (x1.1, 0, x1.2.2) : zR)) (zev d) :=
  (zev_m (T := zT_8) rfl rfl).trans ((zrun_eq (zev d) zT_8 [] 14 _ _ _ _).trans (by rfl))

/-- X0_plainShares (I)I -/
theorem ez_9 (d : Nat) (p0 : Int32) (σ : zM) : zev (d + 1) 9 [.inr (.inr (0, 49)), .inl p0] σ = (fun C : zC => ((C 1 [.inr (.inr (0, 49)), .inl 12] σ).bind fun x0 => if (x0.2.2.1 0 49 5) = (x0.2.2.1 0 49 4) then (zgd (z01 1) (some (0, 0, zwI x0.2.2 0 49 2 1))) else (if ((x0.2.2.1 0 49 5) - (x0.2.2.1 0 49 4)) = 0 then none else some ((p0 / ((x0.2.2.1 0 49 5) - (x0.2.2.1 0 49 4))), 0, x0.2.2)) : zR)) (zev d) :=
  (zev_m (T := zT_9) rfl rfl).trans ((zrun_eq (zev d) zT_9 [] 26 _ _ _ _).trans (by rfl))

/-- X0_plainTells (I)I -/
theorem ez_10 (d : Nat) (p0 : Int32) (σ : zM) : zev (d + 1) 10 [.inr (.inr (0, 49)), .inl p0] σ = (fun C : zC => ((C 1 [.inr (.inr (0, 49)), .inl 13] σ).bind fun x0 => (C 3 [.inr (.inr (0, 49)), .inl p0] x0.2.2).bind fun x1 => some ((x1.1 ^^^ (x1.2.2.1 0 49 5)), 0, x1.2.2) : zR)) (zev d) :=
  (zev_m (T := zT_10) rfl rfl).trans ((zrun_eq (zev d) zT_10 [] 15 _ _ _ _).trans (by rfl))

/-- X1_copyFrom (LOakCourt$Boughs;)V -/
theorem ez_11 (d : Nat) (g : Nat) (h0 : Nat) (σ : zM) : zev (d + 1) 11 [.inr (.inr (g, 1)), .inr (.inr (h0, 1))] σ = (fun C : zC => ((C 148 [.inr (.inr (h0, 2)), .inr (.inr (g, 2))] (zwI σ g 1 0 (σ.1 h0 1 0))).bind fun x0 => (C 148 [.inr (.inr (h0, 3)), .inr (.inr (g, 3))] x0.2.2).bind fun x1 => (C 148 [.inr (.inr (h0, 4)), .inr (.inr (g, 4))] x1.2.2).bind fun x2 => (C 148 [.inr (.inr (h0, 5)), .inr (.inr (g, 5))] x2.2.2).bind fun x3 => (C 148 [.inr (.inr (h0, 6)), .inr (.inr (g, 6))] x3.2.2).bind fun x4 => (C 63 [.inr (.inr (g, 7)), .inr (.inr (h0, 7))] (zwI (zwI (zwI x4.2.2 g 1 6 (x4.2.2.1 h0 1 6)) g 1 7 ((zwI x4.2.2 g 1 6 (x4.2.2.1 h0 1 6)).1 h0 1 7)) g 1 8 ((zwI (zwI x4.2.2 g 1 6 (x4.2.2.1 h0 1 6)) g 1 7 ((zwI x4.2.2 g 1 6 (x4.2.2.1 h0 1 6)).1 h0 1 7)).1 h0 1 8))).bind fun x5 => some (0, 0, x5.2.2) : zR)) (zev d) :=
  (zev_m (T := zT_11) rfl rfl).trans ((zrun_eq (zev d) zT_11 [] 52 _ _ _ _).trans (by rfl))

/-- X1_grow (IIII)I -/
theorem ez_12 (d : Nat) (g : Nat) (p0 : Int32) (p1 : Int32) (p2 : Int32) (p3 : Int32) (σ : zM) : zev (d + 1) 12 [.inr (.inr (g, 1)), .inl p0, .inl p1, .inl p2, .inl p3] σ = (fun C : zC => (zgd (zin (σ.1 g 1 0) 9) (zgd (zin (σ.1 g 1 0) 9) (zgd (zin (σ.1 g 1 0) 9) (zgd (zin (σ.1 g 1 0) 9) ((C 13 [.inr (.inr (g, 1)), .inl p1] (zwI (zwI (zwI (zwI σ g 2 (Int32.toNatClampNeg (σ.1 g 1 0)) p0) g 3 (Int32.toNatClampNeg (σ.1 g 1 0)) p1) g 4 (Int32.toNatClampNeg (σ.1 g 1 0)) p2) g 5 (Int32.toNatClampNeg (σ.1 g 1 0)) p3)).bind fun x0 => if x0.1 = 0 then (zgd (zin (σ.1 g 1 0) 9) (some ((σ.1 g 1 0), 0, zwI (zwI x0.2.2 g 6 (Int32.toNatClampNeg (σ.1 g 1 0)) ((1 <<< ((σ.1 g 1 0) &&& 31)) ||| 0)) g 1 0 (((zwI x0.2.2 g 6 (Int32.toNatClampNeg (σ.1 g 1 0)) ((1 <<< ((σ.1 g 1 0) &&& 31)) ||| 0)).1 g 1 0) + 1)))) else (zgd (zin p1 9) (zgd (zin (σ.1 g 1 0) 9) (some ((σ.1 g 1 0), 0, zwI (zwI x0.2.2 g 6 (Int32.toNatClampNeg (σ.1 g 1 0)) ((1 <<< ((σ.1 g 1 0) &&& 31)) ||| (x0.2.2.1 g 6 (Int32.toNatClampNeg p1)))) g 1 0 (((zwI x0.2.2 g 6 (Int32.toNatClampNeg (σ.1 g 1 0)) ((1 <<< ((σ.1 g 1 0) &&& 31)) ||| (x0.2.2.1 g 6 (Int32.toNatClampNeg p1)))).1 g 1 0) + 1))))))))) : zR)) (zev d) :=
  (zev_m (T := zT_12) rfl rfl).trans ((zrun_eq (zev d) zT_12 [] 54 _ _ _ _).trans (by rfl))

/-- X1_isThere (I)Z -/
theorem ez_13 (d : Nat) (g : Nat) (p0 : Int32) (σ : zM) : zev (d + 1) 13 [.inr (.inr (g, 1)), .inl p0] σ = (fun C : zC => (if p0 < 0 then (zgd (zret 3 0) (some (0, 0, σ))) else (if p0 < (σ.1 g 1 0) then (zgd (zret 3 1) (some (1, 0, σ))) else (zgd (zret 3 0) (some (0, 0, σ)))) : zR)) (zev d) :=
  (zev_m (T := zT_13) rfl rfl).trans ((zrun_eq (zev d) zT_13 [] 15 _ _ _ _).trans (by rfl))

/-- X1_isWhole (I)Z -/
theorem ez_14 (d : Nat) (g : Nat) (p0 : Int32) (σ : zM) : zev (d + 1) 14 [.inr (.inr (g, 1)), .inl p0] σ = (fun C : zC => ((C 13 [.inr (.inr (g, 1)), .inl p0] σ).bind fun x0 => if x0.1 = 0 then (zgd (zret 3 0) (some (0, 0, x0.2.2))) else ((C 145 [.inl (x0.2.2.1 g 1 6), .inl p0] x0.2.2).bind fun x1 => if x1.1 = 0 then (zgd (zret 3 1) (some (1, 0, x1.2.2))) else (zgd (zret 3 0) (some (0, 0, x1.2.2)))) : zR)) (zev d) :=
  (zev_m (T := zT_14) rfl rfl).trans ((zrun_eq (zev d) zT_14 [] 18 _ _ _ _).trans (by rfl))

/-- X1_isAbove (II)Z -/
theorem ez_15 (d : Nat) (g : Nat) (p0 : Int32) (p1 : Int32) (σ : zM) : zev (d + 1) 15 [.inr (.inr (g, 1)), .inl p0, .inl p1] σ = (fun C : zC => ((C 13 [.inr (.inr (g, 1)), .inl p0] σ).bind fun x0 => if x0.1 = 0 then (zgd (zret 3 0) (some (0, 0, x0.2.2))) else (zgd (zin p0 9) ((C 145 [.inl (x0.2.2.1 g 6 (Int32.toNatClampNeg p0)), .inl p1] x0.2.2).bind fun x1 => if x1.1 = 0 then (zgd (zret 3 0) (some (0, 0, x1.2.2))) else (zgd (zret 3 1) (some (1, 0, x1.2.2))))) : zR)) (zev d) :=
  (zev_m (T := zT_15) rfl rfl).trans ((zrun_eq (zev d) zT_15 [] 20 _ _ _ _).trans (by rfl))

/-- X1_holdsNow (I)I -/
theorem ez_16 (d : Nat) (g : Nat) (p0 : Int32) (σ : zM) : zev (d + 1) 16 [.inr (.inr (g, 1)), .inl p0] σ = (fun C : zC => (zgd (zin p0 9) (zgd (zin p0 9) ((C 64 [.inr (.inr (g, 7)), .inl (σ.1 g 1 7), .inl (σ.1 g 1 8), .inl (σ.1 g 4 (Int32.toNatClampNeg p0)), .inl (σ.1 g 5 (Int32.toNatClampNeg p0)), .inl p0] σ).bind fun x0 => zgd (zin p0 9) ((C 65 [.inr (.inr (g, 7)), .inl (x0.2.2.1 g 2 (Int32.toNatClampNeg p0))] x0.2.2).bind fun x1 => zgd (zin p0 9) (if (x1.2.2.1 g 2 (Int32.toNatClampNeg p0)) = 1 then (some ((x1.1 + (10 * (x1.2.2.1 g 1 7))), 0, x1.2.2)) else if (x1.2.2.1 g 2 (Int32.toNatClampNeg p0)) = 2 then (some ((x1.1 / 2), 0, x1.2.2)) else if (x1.2.2.1 g 2 (Int32.toNatClampNeg p0)) = 3 then (zgd (zin p0 9) ((C 272 [.inl 0, .inl ((x1.1 / 2) - (x1.2.2.1 g 4 (Int32.toNatClampNeg p0)))] x1.2.2).bind fun x2 => some (x2.1, 0, x2.2.2))) else if (x1.2.2.1 g 2 (Int32.toNatClampNeg p0)) = 4 then (some ((x1.1 + 50), 0, x1.2.2)) else (some ((2 * (x1.1 + 50)), 0, x1.2.2)))))) : zR)) (zev d) :=
  (zev_m (T := zT_16) rfl rfl).trans ((zrun_eq (zev d) zT_16 [] 66 _ _ _ _).trans (by rfl))

/-- X2_lay (III)V -/
theorem ez_17 (d : Nat) (p0 : Int32) (p1 : Int32) (p2 : Int32) (σ : zM) : zev (d + 1) 17 [.inr (.inr (0, 41)), .inl p0, .inl p1, .inl p2] σ = (fun C : zC => (zgd (zin p0 4) (zgd (zin p0 4) (zrun C zT_17 17 [some (.inr (.inr (0, 41))), some (.inl p0), some (.inl p1), some (.inl p2), some (.inl 0)] [] (zwI (zwI σ 0 42 (Int32.toNatClampNeg p0) p1) 0 43 (Int32.toNatClampNeg p0) p2))) : zR)) (zev d) :=
  (zev_m (T := zT_17) rfl rfl).trans ((zrun_eq (zev d) zT_17 [17] 30 _ _ _ _).trans (by rfl))
theorem ez_17_17 (C : zC) (a1 : Int32) (d2 : Option zV) (d3 : Option zV) (a4 : Int32) (σ : zM) : zrun C zT_17 17 [some (.inr (.inr (0, 41))), some (.inl a1), d2, d3, some (.inl a4)] [] σ = if a4 < 40 then (zgd (zin a1 4) (zgd (zin a4 40) (zrun C zT_17 17 [some (.inr (.inr (0, 41))), some (.inl a1), none, none, some (.inl (a4 + 1))] [] (zwL σ (Int32.toNatClampNeg a1) 45 (Int32.toNatClampNeg a4) 0)))) else (some (0, 0, σ)) :=
  (zrun_eq C zT_17 [17] 30 _ _ _ _).trans (by rfl)

/-- X2_refusalOf (II)I -/
theorem ez_18 (d : Nat) (p0 : Int32) (p1 : Int32) (σ : zM) : zev (d + 1) 18 [.inr (.inr (0, 41)), .inl p0, .inl p1] σ = (fun C : zC => (zgd (zin p0 4) (if (σ.1 0 42 (Int32.toNatClampNeg p0)) = (-1) then (some ((-11), 0, σ)) else (zgd (zin p0 4) (if (σ.1 0 42 (Int32.toNatClampNeg p0)) = p1 then (some (0, 0, σ)) else (some ((-13), 0, σ))))) : zR)) (zev d) :=
  (zev_m (T := zT_18) rfl rfl).trans ((zrun_eq (zev d) zT_18 [] 23 _ _ _ _).trans (by rfl))

/-- X2_hasItem (II)Z -/
theorem ez_19 (d : Nat) (p0 : Int32) (p1 : Int32) (σ : zM) : zev (d + 1) 19 [.inr (.inr (0, 41)), .inl p0, .inl p1] σ = (fun C : zC => (if p1 < 0 then (zgd (zret 3 0) (some (0, 0, σ))) else (zgd (zin p0 4) (if p1 < (σ.1 0 43 (Int32.toNatClampNeg p0)) then (zgd (zret 3 1) (some (1, 0, σ))) else (zgd (zret 3 0) (some (0, 0, σ))))) : zR)) (zev d) :=
  (zev_m (T := zT_19) rfl rfl).trans ((zrun_eq (zev d) zT_19 [] 17 _ _ _ _).trans (by rfl))

/-- X2_shelveBough (II)V -/
theorem ez_20 (d : Nat) (p0 : Int32) (p1 : Int32) (σ : zM) : zev (d + 1) 20 [.inr (.inr (0, 41)), .inl p0, .inl p1] σ = (fun C : zC => (zgd (zin p0 4) (zgd (zin p0 4) (some (0, 0, zwI (zwI σ 0 46 (Int32.toNatClampNeg p0) 1) 0 47 (Int32.toNatClampNeg p0) p1))) : zR)) (zev d) :=
  (zev_m (T := zT_20) rfl rfl).trans ((zrun_eq (zev d) zT_20 [] 16 _ _ _ _).trans (by rfl))

/-- X2_shelveRow (II)V -/
theorem ez_21 (d : Nat) (p0 : Int32) (p1 : Int32) (σ : zM) : zev (d + 1) 21 [.inr (.inr (0, 41)), .inl p0, .inl p1] σ = (fun C : zC => (zgd (zin p1 4) (if (σ.1 0 42 (Int32.toNatClampNeg p1)) = (-1) then (zrun C zT_21 20 [some (.inr (.inr (0, 41))), some (.inl p0), some (.inl p1)] [.inl 0, .inl p0, .inr (.inr (0, 46))] σ) else (zrun C zT_21 20 [some (.inr (.inr (0, 41))), some (.inl p0), some (.inl p1)] [.inl 2, .inl p0, .inr (.inr (0, 46))] σ)) : zR)) (zev d) :=
  (zev_m (T := zT_21) rfl rfl).trans ((zrun_eq (zev d) zT_21 [20] 35 _ _ _ _).trans (by rfl))
theorem ez_21_20 (C : zC) (a1 : Int32) (a2 : Int32) (s0 : Int32) (s1 : Int32) (σ : zM) : zrun C zT_21 20 [some (.inr (.inr (0, 41))), some (.inl a1), some (.inl a2)] [.inl s0, .inl s1, .inr (.inr (0, 46))] σ = zgd (zin s1 4) (zgd (zin a2 4) (zgd (zin a1 4) (zgd (zin a2 4) (zgd (zin a1 4) (some (0, 0, zwI (zwI (zwI σ 0 46 (Int32.toNatClampNeg s1) s0) 0 47 (Int32.toNatClampNeg a1) ((zwI σ 0 46 (Int32.toNatClampNeg s1) s0).1 0 43 (Int32.toNatClampNeg a2))) 0 48 (Int32.toNatClampNeg a1) ((zwI (zwI σ 0 46 (Int32.toNatClampNeg s1) s0) 0 47 (Int32.toNatClampNeg a1) ((zwI σ 0 46 (Int32.toNatClampNeg s1) s0).1 0 43 (Int32.toNatClampNeg a2))).1 0 42 (Int32.toNatClampNeg a2)))))))) :=
  (zrun_eq C zT_21 [20] 35 _ _ _ _).trans (by rfl)

/-- X2_clear (I)V -/
theorem ez_22 (d : Nat) (p0 : Int32) (σ : zM) : zev (d + 1) 22 [.inr (.inr (0, 41)), .inl p0] σ = (fun C : zC => (zgd (zin p0 4) (some (0, 0, zwI σ 0 46 (Int32.toNatClampNeg p0) 0)) : zR)) (zev d) :=
  (zev_m (T := zT_22) rfl rfl).trans ((zrun_eq (zev d) zT_22 [] 11 _ _ _ _).trans (by rfl))

/-- X2_isBough (I)Z -/
theorem ez_23 (d : Nat) (p0 : Int32) (σ : zM) : zev (d + 1) 23 [.inr (.inr (0, 41)), .inl p0] σ = (fun C : zC => (zgd (zin p0 4) (if (σ.1 0 46 (Int32.toNatClampNeg p0)) = 1 then (zgd (zret 3 1) (some (1, 0, σ))) else (zgd (zret 3 0) (some (0, 0, σ)))) : zR)) (zev d) :=
  (zev_m (T := zT_23) rfl rfl).trans ((zrun_eq (zev d) zT_23 [] 15 _ _ _ _).trans (by rfl))

/-- X2_isRow (I)Z -/
theorem ez_24 (d : Nat) (p0 : Int32) (σ : zM) : zev (d + 1) 24 [.inr (.inr (0, 41)), .inl p0] σ = (fun C : zC => (zgd (zin p0 4) (if (σ.1 0 46 (Int32.toNatClampNeg p0)) = 2 then (zgd (zret 3 1) (some (1, 0, σ))) else (zgd (zret 3 0) (some (0, 0, σ)))) : zR)) (zev d) :=
  (zev_m (T := zT_24) rfl rfl).trans ((zrun_eq (zev d) zT_24 [] 15 _ _ _ _).trans (by rfl))

/-- X3_copyFrom (LOakCourt$Oak;)V -/
theorem ez_25 (d : Nat) (g : Nat) (h0 : Nat) (σ : zM) : zev (d + 1) 25 [.inr (.inr (g, 0)), .inr (.inr (h0, 0))] σ = (fun C : zC => ((C 11 [.inr (.inr (g, 1)), .inr (.inr (h0, 1))] σ).bind fun x0 => (C 35 [.inr (.inr (g, 15)), .inr (.inr (h0, 15))] x0.2.2).bind fun x1 => (C 40 [.inr (.inr (g, 19)), .inr (.inr (h0, 19))] x1.2.2).bind fun x2 => some (0, 0, zwI x2.2.2 g 0 3 (x2.2.2.1 h0 0 3)) : zR)) (zev d) :=
  (zev_m (T := zT_25) rfl rfl).trans ((zrun_eq (zev d) zT_25 [] 25 _ _ _ _).trans (by rfl))

/-- X3_bears (I)I -/
theorem ez_26 (d : Nat) (g : Nat) (p0 : Int32) (σ : zM) : zev (d + 1) 26 [.inr (.inr (g, 0)), .inl p0] σ = (fun C : zC => (zgd (zin p0 9) (zrun C zT_26 20 [some (.inr (.inr (g, 0))), some (.inl p0), some (.inl ((σ.1 g 1 8) * (σ.1 g 4 (Int32.toNatClampNeg p0)))), some (.inl 0)] [] σ) : zR)) (zev d) :=
  (zev_m (T := zT_26) rfl rfl).trans ((zrun_eq (zev d) zT_26 [20] 44 _ _ _ _).trans (by rfl))
theorem ez_26_20 (C : zC) (g : Nat) (a1 : Int32) (a2 : Int32) (a3 : Int32) (σ : zM) : zrun C zT_26 20 [some (.inr (.inr (g, 0))), some (.inl a1), some (.inl a2), some (.inl a3)] [] σ = if a3 < (σ.1 g 15 0) then (zgd (zin a3 8) ((C 15 [.inr (.inr (g, 1)), .inl (σ.1 g 18 (Int32.toNatClampNeg a3)), .inl a1] σ).bind fun x0 => if x0.1 = 0 then (zrun C zT_26 20 [some (.inr (.inr (g, 0))), some (.inl a1), some (.inl a2), some (.inl (a3 + 1))] [] x0.2.2) else (zgd (zin a3 8) (zrun C zT_26 20 [some (.inr (.inr (g, 0))), some (.inl a1), some (.inl (a2 + (x0.2.2.1 g 16 (Int32.toNatClampNeg a3)))), some (.inl (a3 + 1))] [] x0.2.2)))) else (some (a2, 0, σ)) :=
  (zrun_eq C zT_26 [20] 44 _ _ _ _).trans (by rfl)

/-- X3_measure ()V -/
theorem ez_27 (d : Nat) (g : Nat) (σ : zM) : zev (d + 1) 27 [.inr (.inr (g, 0))] σ = (fun C : zC => (zrun C zT_27 2 [some (.inr (.inr (g, 0))), some (.inl 0)] [] σ : zR)) (zev d) :=
  (zev_m (T := zT_27) rfl rfl).trans ((zrun_eq (zev d) zT_27 [2] 27 _ _ _ _).trans (by rfl))
theorem ez_27_2 (C : zC) (g : Nat) (a1 : Int32) (σ : zM) : zrun C zT_27 2 [some (.inr (.inr (g, 0))), some (.inl a1)] [] σ = if a1 < (σ.1 g 1 0) then ((C 16 [.inr (.inr (g, 1)), .inl a1] σ).bind fun x0 => (C 26 [.inr (.inr (g, 0)), .inl a1] x0.2.2).bind fun x1 => zgd (zin a1 9) (zrun C zT_27 2 [some (.inr (.inr (g, 0))), some (.inl (a1 + 1))] [] (zwI x1.2.2 g 22 (Int32.toNatClampNeg a1) (x0.1 - x1.1)))) else (some (0, 0, σ)) :=
  (zrun_eq C zT_27 [2] 27 _ _ _ _).trans (by rfl)

/-- X3_load (II)V -/
theorem ez_28 (d : Nat) (g : Nat) (p0 : Int32) (p1 : Int32) (σ : zM) : zev (d + 1) 28 [.inr (.inr (g, 0)), .inl p0, .inl p1] σ = (fun C : zC => (zrun C zT_28 2 [some (.inr (.inr (g, 0))), some (.inl p0), some (.inl p1), some (.inl 0)] [] σ : zR)) (zev d) :=
  (zev_m (T := zT_28) rfl rfl).trans ((zrun_eq (zev d) zT_28 [2] 29 _ _ _ _).trans (by rfl))
theorem ez_28_2 (C : zC) (g : Nat) (a1 : Int32) (a2 : Int32) (a3 : Int32) (σ : zM) : zrun C zT_28 2 [some (.inr (.inr (g, 0))), some (.inl a1), some (.inl a2), some (.inl a3)] [] σ = if a3 < (σ.1 g 1 0) then ((C 15 [.inr (.inr (g, 1)), .inl a1, .inl a3] σ).bind fun x0 => if x0.1 = 0 then (zrun C zT_28 2 [some (.inr (.inr (g, 0))), some (.inl a1), some (.inl a2), some (.inl (a3 + 1))] [] x0.2.2) else (zgd (zin a3 9) (zgd (zin a3 9) (zrun C zT_28 2 [some (.inr (.inr (g, 0))), some (.inl a1), some (.inl a2), some (.inl (a3 + 1))] [] (zwI x0.2.2 g 22 (Int32.toNatClampNeg a3) ((x0.2.2.1 g 22 (Int32.toNatClampNeg a3)) - a2)))))) else (some (0, 0, σ)) :=
  (zrun_eq C zT_28 [2] 29 _ _ _ _).trans (by rfl)

/-- X3_cracking ()I -/
theorem ez_29 (d : Nat) (g : Nat) (σ : zM) : zev (d + 1) 29 [.inr (.inr (g, 0))] σ = (fun C : zC => (zrun C zT_29 4 [some (.inr (.inr (g, 0))), some (.inl 0), some (.inl 0)] [] σ : zR)) (zev d) :=
  (zev_m (T := zT_29) rfl rfl).trans ((zrun_eq (zev d) zT_29 [4] 34 _ _ _ _).trans (by rfl))
theorem ez_29_4 (C : zC) (g : Nat) (a1 : Int32) (a2 : Int32) (σ : zM) : zrun C zT_29 4 [some (.inr (.inr (g, 0))), some (.inl a1), some (.inl a2)] [] σ = if a2 < (σ.1 g 1 0) then (zgd (zin a2 9) (if (σ.1 g 22 (Int32.toNatClampNeg a2)) < 0 then ((C 14 [.inr (.inr (g, 1)), .inl a2] σ).bind fun x0 => if x0.1 = 0 then (zrun C zT_29 4 [some (.inr (.inr (g, 0))), some (.inl a1), some (.inl (a2 + 1))] [] x0.2.2) else (zrun C zT_29 4 [some (.inr (.inr (g, 0))), some (.inl (a1 ||| (1 <<< (a2 &&& 31)))), some (.inl (a2 + 1))] [] x0.2.2)) else (zrun C zT_29 4 [some (.inr (.inr (g, 0))), some (.inl a1), some (.inl (a2 + 1))] [] σ))) else (some (a1, 0, σ)) :=
  (zrun_eq C zT_29 [4] 34 _ _ _ _).trans (by rfl)

/-- X3_stateOf (I)I -/
theorem ez_30 (d : Nat) (g : Nat) (p0 : Int32) (σ : zM) : zev (d + 1) 30 [.inr (.inr (g, 0)), .inl p0] σ = (fun C : zC => ((C 14 [.inr (.inr (g, 1)), .inl p0] σ).bind fun x0 => if x0.1 = 0 then (some (2, 0, x0.2.2)) else ((C 26 [.inr (.inr (g, 0)), .inl p0] x0.2.2).bind fun x1 => (C 16 [.inr (.inr (g, 1)), .inl p0] x1.2.2).bind fun x2 => if x2.1 < x1.1 then (some (1, 0, x2.2.2)) else (some (0, 0, x2.2.2))) : zR)) (zev d) :=
  (zev_m (T := zT_30) rfl rfl).trans ((zrun_eq (zev d) zT_30 [] 24 _ _ _ _).trans (by rfl))

/-- X3_leastSpare ()I -/
theorem ez_31 (d : Nat) (g : Nat) (σ : zM) : zev (d + 1) 31 [.inr (.inr (g, 0))] σ = (fun C : zC => (zrun C zT_31 5 [some (.inr (.inr (g, 0))), some (.inl (-9)), some (.inl 0)] [] σ : zR)) (zev d) :=
  (zev_m (T := zT_31) rfl rfl).trans ((zrun_eq (zev d) zT_31 [5] 37 _ _ _ _).trans (by rfl))
theorem ez_31_5 (C : zC) (g : Nat) (a1 : Int32) (a2 : Int32) (σ : zM) : zrun C zT_31 5 [some (.inr (.inr (g, 0))), some (.inl a1), some (.inl a2)] [] σ = if a2 < (σ.1 g 1 0) then ((C 14 [.inr (.inr (g, 1)), .inl a2] σ).bind fun x0 => if x0.1 = 0 then (zrun C zT_31 5 [some (.inr (.inr (g, 0))), some (.inl a1), some (.inl (a2 + 1))] [] x0.2.2) else (if a1 = (-9) then (zrun C zT_31 5 [some (.inr (.inr (g, 0))), some (.inl a2), some (.inl (a2 + 1))] [] x0.2.2) else (zgd (zin a2 9) (zgd (zin a1 9) (if (x0.2.2.1 g 22 (Int32.toNatClampNeg a2)) < (x0.2.2.1 g 22 (Int32.toNatClampNeg a1)) then (zrun C zT_31 5 [some (.inr (.inr (g, 0))), some (.inl a2), some (.inl (a2 + 1))] [] x0.2.2) else (zrun C zT_31 5 [some (.inr (.inr (g, 0))), some (.inl a1), some (.inl (a2 + 1))] [] x0.2.2)))))) else (some (a1, 0, σ)) :=
  (zrun_eq C zT_31 [5] 37 _ _ _ _).trans (by rfl)

/-- X3_roomOn (I)I -/
theorem ez_32 (d : Nat) (g : Nat) (p0 : Int32) (σ : zM) : zev (d + 1) 32 [.inr (.inr (g, 0)), .inl p0] σ = (fun C : zC => (zgd (zin p0 9) (zrun C zT_32 9 [some (.inr (.inr (g, 0))), some (.inl p0), some (.inl (σ.1 g 22 (Int32.toNatClampNeg p0))), some (.inl 0)] [] σ) : zR)) (zev d) :=
  (zev_m (T := zT_32) rfl rfl).trans ((zrun_eq (zev d) zT_32 [9] 36 _ _ _ _).trans (by rfl))
theorem ez_32_9 (C : zC) (g : Nat) (a1 : Int32) (a2 : Int32) (a3 : Int32) (σ : zM) : zrun C zT_32 9 [some (.inr (.inr (g, 0))), some (.inl a1), some (.inl a2), some (.inl a3)] [] σ = if a3 < (σ.1 g 1 0) then ((C 15 [.inr (.inr (g, 1)), .inl a1, .inl a3] σ).bind fun x0 => if x0.1 = 0 then (zrun C zT_32 9 [some (.inr (.inr (g, 0))), some (.inl a1), some (.inl a2), some (.inl (a3 + 1))] [] x0.2.2) else (zgd (zin a3 9) ((C 273 [.inl a2, .inl (x0.2.2.1 g 22 (Int32.toNatClampNeg a3))] x0.2.2).bind fun x1 => zrun C zT_32 9 [some (.inr (.inr (g, 0))), some (.inl a1), some (.inl x1.1), some (.inl (a3 + 1))] [] x1.2.2))) else ((C 272 [.inl 0, .inl a2] σ).bind fun x2 => some (x2.1, 0, x2.2.2)) :=
  (zrun_eq C zT_32 [9] 36 _ _ _ _).trans (by rfl)

/-- X3_breakDown ()I -/
theorem ez_33 (d : Nat) (g : Nat) (σ : zM) : zev (d + 1) 33 [.inr (.inr (g, 0))] σ = (fun C : zC => ((C 27 [.inr (.inr (g, 0))] σ).bind fun x0 => zrun C zT_33 8 [some (.inr (.inr (g, 0))), some (.inl 0), some (.inl 0), none] [] x0.2.2 : zR)) (zev d) :=
  (zev_m (T := zT_33) rfl rfl).trans ((zrun_eq (zev d) zT_33 [8] 37 _ _ _ _).trans (by rfl))
theorem ez_33_8 (C : zC) (g : Nat) (a1 : Int32) (a2 : Int32) (d3 : Option zV) (σ : zM) : zrun C zT_33 8 [some (.inr (.inr (g, 0))), some (.inl a1), some (.inl a2), d3] [] σ = if a2 < 9 then ((C 31 [.inr (.inr (g, 0))] σ).bind fun x0 => if x0.1 = (-9) then (some (a1, 0, x0.2.2)) else (zgd (zin x0.1 9) (if (x0.2.2.1 g 22 (Int32.toNatClampNeg x0.1)) < 0 then ((C 34 [.inr (.inr (g, 0)), .inl x0.1] x0.2.2).bind fun x1 => zrun C zT_33 8 [some (.inr (.inr (g, 0))), some (.inl (a1 + x1.1)), some (.inl (a2 + 1)), some (.inl x0.1)] [] x1.2.2) else (some (a1, 0, x0.2.2))))) else (some (a1, 0, σ)) :=
  (zrun_eq C zT_33 [8] 37 _ _ _ _).trans (by rfl)

/-- X3_breakOff (I)I -/
theorem ez_34 (d : Nat) (g : Nat) (p0 : Int32) (σ : zM) : zev (d + 1) 34 [.inr (.inr (g, 0)), .inl p0] σ = (fun C : zC => (zrun C zT_34 2 [some (.inr (.inr (g, 0))), some (.inl p0), some (.inl 0), none, none] [] σ : zR)) (zev d) :=
  (zev_m (T := zT_34) rfl rfl).trans ((zrun_eq (zev d) zT_34 [2, 50] 71 _ _ _ _).trans (by rfl))
theorem ez_34_2 (C : zC) (g : Nat) (a1 : Int32) (a2 : Int32) (d3 : Option zV) (d4 : Option zV) (σ : zM) : zrun C zT_34 2 [some (.inr (.inr (g, 0))), some (.inl a1), some (.inl a2), d3, d4] [] σ = if a2 < (σ.1 g 1 0) then ((C 15 [.inr (.inr (g, 1)), .inl a2, .inl a1] σ).bind fun x0 => if x0.1 = 0 then (zrun C zT_34 2 [some (.inr (.inr (g, 0))), some (.inl a1), some (.inl (a2 + 1)), none, none] [] x0.2.2) else (zrun C zT_34 2 [some (.inr (.inr (g, 0))), some (.inl a1), some (.inl (a2 + 1)), none, none] [] (zwI x0.2.2 g 1 6 ((x0.2.2.1 g 1 6) ||| (1 <<< (a2 &&& 31)))))) else (zrun C zT_34 50 [some (.inr (.inr (g, 0))), some (.inl a1), some (.inl 0), some (.inl 0), none] [] σ) :=
  (zrun_eq C zT_34 [2, 50] 71 _ _ _ _).trans (by rfl)
theorem ez_34_50 (C : zC) (g : Nat) (a1 : Int32) (a2 : Int32) (a3 : Int32) (d4 : Option zV) (σ : zM) : zrun C zT_34 50 [some (.inr (.inr (g, 0))), some (.inl a1), some (.inl a2), some (.inl a3), d4] [] σ = if a3 < (σ.1 g 15 0) then (zgd (zin a3 8) ((C 15 [.inr (.inr (g, 1)), .inl (σ.1 g 18 (Int32.toNatClampNeg a3)), .inl a1] σ).bind fun x0 => if x0.1 = 0 then (zrun C zT_34 50 [some (.inr (.inr (g, 0))), some (.inl a1), some (.inl a2), some (.inl (a3 + 1)), some (.inl (σ.1 g 18 (Int32.toNatClampNeg a3)))] [] x0.2.2) else (zgd (zin a3 8) ((C 28 [.inr (.inr (g, 0)), .inl (σ.1 g 18 (Int32.toNatClampNeg a3)), .inl (-(x0.2.2.1 g 16 (Int32.toNatClampNeg a3)))] x0.2.2).bind fun x1 => zgd (zin a3 8) (zrun C zT_34 50 [some (.inr (.inr (g, 0))), some (.inl a1), some (.inl (a2 + 1)), some (.inl (a3 + 1)), some (.inl (σ.1 g 18 (Int32.toNatClampNeg a3)))] [] (zwI x1.2.2 g 18 (Int32.toNatClampNeg a3) (-9))))))) else (some (a2, 0, σ)) :=
  (zrun_eq C zT_34 [2, 50] 71 _ _ _ _).trans (by rfl)

/-- X4_copyFrom (LOakCourt$People;)V -/
theorem ez_35 (d : Nat) (g : Nat) (h0 : Nat) (σ : zM) : zev (d + 1) 35 [.inr (.inr (g, 15)), .inr (.inr (h0, 15))] σ = (fun C : zC => ((C 148 [.inr (.inr (h0, 16)), .inr (.inr (g, 16))] (zwI σ g 15 0 (σ.1 h0 15 0))).bind fun x0 => (C 148 [.inr (.inr (h0, 17)), .inr (.inr (g, 17))] x0.2.2).bind fun x1 => (C 148 [.inr (.inr (h0, 18)), .inr (.inr (g, 18))] x1.2.2).bind fun x2 => some (0, 0, x2.2.2) : zR)) (zev d) :=
  (zev_m (T := zT_35) rfl rfl).trans ((zrun_eq (zev d) zT_35 [] 25 _ _ _ _).trans (by rfl))

/-- X4_join (II)I -/
theorem ez_36 (d : Nat) (g : Nat) (p0 : Int32) (p1 : Int32) (σ : zM) : zev (d + 1) 36 [.inr (.inr (g, 15)), .inl p0, .inl p1] σ = (fun C : zC => (zgd (zin (σ.1 g 15 0) 8) (zgd (zin (σ.1 g 15 0) 8) (zgd (zin (σ.1 g 15 0) 8) (some ((σ.1 g 15 0), 0, zwI (zwI (zwI (zwI σ g 16 (Int32.toNatClampNeg (σ.1 g 15 0)) p0) g 17 (Int32.toNatClampNeg (σ.1 g 15 0)) p1) g 18 (Int32.toNatClampNeg (σ.1 g 15 0)) (-9)) g 15 0 (((zwI (zwI (zwI σ g 16 (Int32.toNatClampNeg (σ.1 g 15 0)) p0) g 17 (Int32.toNatClampNeg (σ.1 g 15 0)) p1) g 18 (Int32.toNatClampNeg (σ.1 g 15 0)) (-9)).1 g 15 0) + 1))))) : zR)) (zev d) :=
  (zev_m (T := zT_36) rfl rfl).trans ((zrun_eq (zev d) zT_36 [] 31 _ _ _ _).trans (by rfl))

/-- X4_isThere (I)Z -/
theorem ez_37 (d : Nat) (g : Nat) (p0 : Int32) (σ : zM) : zev (d + 1) 37 [.inr (.inr (g, 15)), .inl p0] σ = (fun C : zC => (if p0 < 0 then (zgd (zret 3 0) (some (0, 0, σ))) else (if p0 < (σ.1 g 15 0) then (zgd (zret 3 1) (some (1, 0, σ))) else (zgd (zret 3 0) (some (0, 0, σ)))) : zR)) (zev d) :=
  (zev_m (T := zT_37) rfl rfl).trans ((zrun_eq (zev d) zT_37 [] 15 _ _ _ _).trans (by rfl))

/-- X4_seatedWeight (I)I -/
theorem ez_38 (d : Nat) (g : Nat) (p0 : Int32) (σ : zM) : zev (d + 1) 38 [.inr (.inr (g, 15)), .inl p0] σ = (fun C : zC => (zrun C zT_38 4 [some (.inr (.inr (g, 15))), some (.inl p0), some (.inl 0), some (.inl 0)] [] σ : zR)) (zev d) :=
  (zev_m (T := zT_38) rfl rfl).trans ((zrun_eq (zev d) zT_38 [4] 36 _ _ _ _).trans (by rfl))
theorem ez_38_4 (C : zC) (g : Nat) (a1 : Int32) (a2 : Int32) (a3 : Int32) (σ : zM) : zrun C zT_38 4 [some (.inr (.inr (g, 15))), some (.inl a1), some (.inl a2), some (.inl a3)] [] σ = if a3 < (σ.1 g 15 0) then (zgd (zin a3 8) (if (σ.1 g 17 (Int32.toNatClampNeg a3)) = a1 then (zgd (zin a3 8) (if (σ.1 g 18 (Int32.toNatClampNeg a3)) = (-9) then (zrun C zT_38 4 [some (.inr (.inr (g, 15))), some (.inl a1), some (.inl a2), some (.inl (a3 + 1))] [] σ) else (zgd (zin a3 8) (zrun C zT_38 4 [some (.inr (.inr (g, 15))), some (.inl a1), some (.inl (a2 + (σ.1 g 16 (Int32.toNatClampNeg a3)))), some (.inl (a3 + 1))] [] σ)))) else (zrun C zT_38 4 [some (.inr (.inr (g, 15))), some (.inl a1), some (.inl a2), some (.inl (a3 + 1))] [] σ))) else (some (a2, 0, σ)) :=
  (zrun_eq C zT_38 [4] 36 _ _ _ _).trans (by rfl)

/-- X4_firstUnseated (I)I -/
theorem ez_39 (d : Nat) (g : Nat) (p0 : Int32) (σ : zM) : zev (d + 1) 39 [.inr (.inr (g, 15)), .inl p0] σ = (fun C : zC => (zrun C zT_39 2 [some (.inr (.inr (g, 15))), some (.inl p0), some (.inl 0)] [] σ : zR)) (zev d) :=
  (zev_m (T := zT_39) rfl rfl).trans ((zrun_eq (zev d) zT_39 [2] 29 _ _ _ _).trans (by rfl))
theorem ez_39_2 (C : zC) (g : Nat) (a1 : Int32) (a2 : Int32) (σ : zM) : zrun C zT_39 2 [some (.inr (.inr (g, 15))), some (.inl a1), some (.inl a2)] [] σ = if a2 < (σ.1 g 15 0) then (zgd (zin a2 8) (if (σ.1 g 17 (Int32.toNatClampNeg a2)) = a1 then (zgd (zin a2 8) (if (σ.1 g 18 (Int32.toNatClampNeg a2)) = (-9) then (some (a2, 0, σ)) else (zrun C zT_39 2 [some (.inr (.inr (g, 15))), some (.inl a1), some (.inl (a2 + 1))] [] σ))) else (zrun C zT_39 2 [some (.inr (.inr (g, 15))), some (.inl a1), some (.inl (a2 + 1))] [] σ))) else (some ((-9), 0, σ)) :=
  (zrun_eq C zT_39 [2] 29 _ _ _ _).trans (by rfl)

/-- X5_copyFrom (LOakCourt$Reports;)V -/
theorem ez_40 (d : Nat) (g : Nat) (h0 : Nat) (σ : zM) : zev (d + 1) 40 [.inr (.inr (g, 19)), .inr (.inr (h0, 19))] σ = (fun C : zC => ((C 148 [.inr (.inr (h0, 20)), .inr (.inr (g, 20))] (zwI σ g 19 0 (σ.1 h0 19 0))).bind fun x0 => (C 148 [.inr (.inr (h0, 21)), .inr (.inr (g, 21))] x0.2.2).bind fun x1 => some (0, 0, x1.2.2) : zR)) (zev d) :=
  (zev_m (T := zT_40) rfl rfl).trans ((zrun_eq (zev d) zT_40 [] 20 _ _ _ _).trans (by rfl))

/-- X5_note (II)I -/
theorem ez_41 (d : Nat) (g : Nat) (p0 : Int32) (p1 : Int32) (σ : zM) : zev (d + 1) 41 [.inr (.inr (g, 19)), .inl p0, .inl p1] σ = (fun C : zC => (zgd (zin (σ.1 g 19 0) 6) (zgd (zin (σ.1 g 19 0) 6) (some ((σ.1 g 19 0), 0, zwI (zwI (zwI σ g 20 (Int32.toNatClampNeg (σ.1 g 19 0)) p0) g 21 (Int32.toNatClampNeg (σ.1 g 19 0)) p1) g 19 0 (((zwI (zwI σ g 20 (Int32.toNatClampNeg (σ.1 g 19 0)) p0) g 21 (Int32.toNatClampNeg (σ.1 g 19 0)) p1).1 g 19 0) + 1)))) : zR)) (zev d) :=
  (zev_m (T := zT_41) rfl rfl).trans ((zrun_eq (zev d) zT_41 [] 26 _ _ _ _).trans (by rfl))

/-- X5_fit (LOakCourt$Oak;I)V -/
theorem ez_42 (d : Nat) (g : Nat) (h0 : Nat) (p1 : Int32) (σ : zM) : zev (d + 1) 42 [.inr (.inr (g, 19)), .inr (.inr (h0, 0)), .inl p1] σ = (fun C : zC => (zrun C zT_42 14 [some (.inr (.inr (g, 19))), some (.inr (.inr (h0, 0))), some (.inl p1), some (.inl 0)] [] (zwI (zwI σ g 19 3 1) g 19 4 200) : zR)) (zev d) :=
  (zev_m (T := zT_42) rfl rfl).trans ((zrun_eq (zev d) zT_42 [14] 27 _ _ _ _).trans (by rfl))
theorem ez_42_14 (C : zC) (g : Nat) (h0 : Nat) (a2 : Int32) (a3 : Int32) (σ : zM) : zrun C zT_42 14 [some (.inr (.inr (g, 19))), some (.inr (.inr (h0, 0))), some (.inl a2), some (.inl a3)] [] σ = if a3 < (σ.1 g 19 0) then (if a3 = a2 then (zrun C zT_42 14 [some (.inr (.inr (g, 19))), some (.inr (.inr (h0, 0))), some (.inl a2), some (.inl (a3 + 1))] [] σ) else ((C 43 [.inr (.inr (g, 19)), .inr (.inr (h0, 0)), .inl a3] σ).bind fun x0 => zrun C zT_42 14 [some (.inr (.inr (g, 19))), some (.inr (.inr (h0, 0))), some (.inl a2), some (.inl (a3 + 1))] [] x0.2.2)) else (some (0, 0, σ)) :=
  (zrun_eq C zT_42 [14] 27 _ _ _ _).trans (by rfl)

/-- X5_narrow (LOakCourt$Oak;I)V -/
theorem ez_43 (d : Nat) (g : Nat) (h0 : Nat) (p1 : Int32) (σ : zM) : zev (d + 1) 43 [.inr (.inr (g, 19)), .inr (.inr (h0, 0)), .inl p1] σ = (fun C : zC => (zgd (zin p1 6) ((C 14 [.inr (.inr (h0, 1)), .inl (σ.1 g 20 (Int32.toNatClampNeg p1))] σ).bind fun x0 => if x0.1 = 0 then (some (0, 0, zwI x0.2.2 g 19 4 0)) else ((C 29 [.inr (.inr (h0, 0))] x0.2.2).bind fun x1 => if x1.1 = 0 then (zgd (zin p1 6) ((C 32 [.inr (.inr (h0, 0)), .inl (x1.2.2.1 g 20 (Int32.toNatClampNeg p1))] x1.2.2).bind fun x2 => zrun C zT_43 45 [some (.inr (.inr (g, 19))), some (.inr (.inr (h0, 0))), some (.inl p1), none] [.inl (x2.1 + 1)] x2.2.2)) else (zrun C zT_43 45 [some (.inr (.inr (g, 19))), some (.inr (.inr (h0, 0))), some (.inl p1), none] [.inl 1] x1.2.2))) : zR)) (zev d) :=
  (zev_m (T := zT_43) rfl rfl).trans ((zrun_eq (zev d) zT_43 [45] 53 _ _ _ _).trans (by rfl))
theorem ez_43_45 (C : zC) (g : Nat) (d1 : Option zV) (a2 : Int32) (d3 : Option zV) (s0 : Int32) (σ : zM) : zrun C zT_43 45 [some (.inr (.inr (g, 19))), d1, some (.inl a2), d3] [.inl s0] σ = zgd (zin a2 6) (if (σ.1 g 21 (Int32.toNatClampNeg a2)) = 1 then ((C 272 [.inl (σ.1 g 19 3), .inl s0] σ).bind fun x0 => some (0, 0, zwI x0.2.2 g 19 3 x0.1)) else ((C 273 [.inl (σ.1 g 19 4), .inl (s0 - 1)] σ).bind fun x1 => some (0, 0, zwI x1.2.2 g 19 4 x1.1))) :=
  (zrun_eq C zT_43 [45] 53 _ _ _ _).trans (by rfl)

/-- X5_fitting ()I -/
theorem ez_44 (d : Nat) (g : Nat) (σ : zM) : zev (d + 1) 44 [.inr (.inr (g, 19))] σ = (fun C : zC => ((C 272 [.inl 0, .inl (((σ.1 g 19 4) - (σ.1 g 19 3)) + 1)] σ).bind fun x0 => some (x0.1, 0, x0.2.2) : zR)) (zev d) :=
  (zev_m (T := zT_44) rfl rfl).trans ((zrun_eq (zev d) zT_44 [] 15 _ _ _ _).trans (by rfl))

/-- X6_has (II)Z -/
theorem ez_45 (d : Nat) (p0 : Int32) (p1 : Int32) (σ : zM) : zev (d + 1) 45 [.inr (.inr (0, 38)), .inl p0, .inl p1] σ = (fun C : zC => (if p0 < 0 then (zgd (zret 3 0) (some (0, 0, σ))) else (if p0 < (σ.1 0 38 0) then (if p1 < 0 then (zgd (zret 3 0) (some (0, 0, σ))) else (if p1 < 3 then (zgd (zret 3 1) (some (1, 0, σ))) else (zgd (zret 3 0) (some (0, 0, σ))))) else (zgd (zret 3 0) (some (0, 0, σ)))) : zR)) (zev d) :=
  (zev_m (T := zT_45) rfl rfl).trans ((zrun_eq (zev d) zT_45 [] 20 _ _ _ _).trans (by rfl))

/-- X6_tell (LOakCourt$Oak;I)V -/
theorem ez_46 (d : Nat) (h0 : Nat) (p1 : Int32) (σ : zM) : zev (d + 1) 46 [.inr (.inr (0, 38)), .inr (.inr (h0, 0)), .inl p1] σ = (fun C : zC => (zrun C zT_46 10 [some (.inr (.inr (0, 38))), some (.inr (.inr (h0, 0))), some (.inl p1), some (.inl p1), some (.inl 0)] [] (zwI σ 0 38 0 0) : zR)) (zev d) :=
  (zev_m (T := zT_46) rfl rfl).trans ((zrun_eq (zev d) zT_46 [10] 60 _ _ _ _).trans (by rfl))
theorem ez_46_10 (C : zC) (h0 : Nat) (d2 : Option zV) (a3 : Int32) (a4 : Int32) (σ : zM) : zrun C zT_46 10 [some (.inr (.inr (0, 38))), some (.inr (.inr (h0, 0))), d2, some (.inl a3), some (.inl a4)] [] σ = if a4 < 9 then ((C 13 [.inr (.inr (h0, 1)), .inl a3] σ).bind fun x0 => if x0.1 = 0 then (some (0, 0, x0.2.2)) else (zgd (zin a4 9) (zgd (zin a4 9) ((C 26 [.inr (.inr (h0, 0)), .inl a3] (zwI x0.2.2 (Int32.toNatClampNeg a4) 40 0 a3)).bind fun x1 => zgd (zin a4 9) ((C 16 [.inr (.inr (h0, 1)), .inl a3] (zwI x1.2.2 (Int32.toNatClampNeg a4) 40 1 x1.1)).bind fun x2 => zgd (zin a3 9) (zrun C zT_46 10 [some (.inr (.inr (0, 38))), some (.inr (.inr (h0, 0))), none, some (.inl ((zwI (zwI x2.2.2 (Int32.toNatClampNeg a4) 40 2 x2.1) 0 38 0 (a4 + 1)).1 h0 3 (Int32.toNatClampNeg a3))), some (.inl (a4 + 1))] [] (zwI (zwI x2.2.2 (Int32.toNatClampNeg a4) 40 2 x2.1) 0 38 0 (a4 + 1)))))))) else (some (0, 0, σ)) :=
  (zrun_eq C zT_46 [10] 60 _ _ _ _).trans (by rfl)

/-- X6_firstWrong (LOakCourt$Oak;)I -/
theorem ez_47 (d : Nat) (h0 : Nat) (σ : zM) : zev (d + 1) 47 [.inr (.inr (0, 38)), .inr (.inr (h0, 0))] σ = (fun C : zC => (zrun C zT_47 5 [some (.inr (.inr (0, 38))), some (.inr (.inr (h0, 0))), some (.inl (-9)), some (.inl 0), none] [] σ : zR)) (zev d) :=
  (zev_m (T := zT_47) rfl rfl).trans ((zrun_eq (zev d) zT_47 [5, 49] 75 _ _ _ _).trans (by rfl))
theorem ez_47_5 (C : zC) (h0 : Nat) (a2 : Int32) (a3 : Int32) (d4 : Option zV) (σ : zM) : zrun C zT_47 5 [some (.inr (.inr (0, 38))), some (.inr (.inr (h0, 0))), some (.inl a2), some (.inl a3), d4] [] σ = if a3 < (σ.1 0 38 0) then (zgd (zin a3 9) ((C 13 [.inr (.inr (h0, 1)), .inl (σ.1 (Int32.toNatClampNeg a3) 40 0)] σ).bind fun x0 => if x0.1 = 0 then (some ((a3 + 1), 0, x0.2.2)) else (if 0 < a3 then (if (σ.1 (Int32.toNatClampNeg a3) 40 0) = a2 then (zrun C zT_47 49 [some (.inr (.inr (0, 38))), some (.inr (.inr (h0, 0))), some (.inl a2), some (.inl a3), some (.inl (σ.1 (Int32.toNatClampNeg a3) 40 0))] [] x0.2.2) else (some ((a3 + 1), 0, x0.2.2))) else (zrun C zT_47 49 [some (.inr (.inr (0, 38))), some (.inr (.inr (h0, 0))), some (.inl a2), some (.inl a3), some (.inl (σ.1 (Int32.toNatClampNeg a3) 40 0))] [] x0.2.2)))) else (if a2 = (-9) then (some (0, 0, σ)) else (some ((σ.1 0 38 0), 0, σ))) :=
  (zrun_eq C zT_47 [5, 49] 75 _ _ _ _).trans (by rfl)
theorem ez_47_49 (C : zC) (h0 : Nat) (d2 : Option zV) (a3 : Int32) (a4 : Int32) (σ : zM) : zrun C zT_47 49 [some (.inr (.inr (0, 38))), some (.inr (.inr (h0, 0))), d2, some (.inl a3), some (.inl a4)] [] σ = zgd (zin a3 9) ((C 26 [.inr (.inr (h0, 0)), .inl a4] σ).bind fun x0 => if (σ.1 (Int32.toNatClampNeg a3) 40 1) = x0.1 then (zgd (zin a3 9) ((C 16 [.inr (.inr (h0, 1)), .inl a4] x0.2.2).bind fun x1 => if (x0.2.2.1 (Int32.toNatClampNeg a3) 40 2) = x1.1 then (zgd (zin a4 9) (zrun C zT_47 5 [some (.inr (.inr (0, 38))), some (.inr (.inr (h0, 0))), some (.inl (x1.2.2.1 h0 3 (Int32.toNatClampNeg a4))), some (.inl (a3 + 1)), some (.inl a4)] [] x1.2.2)) else (some ((a3 + 1), 0, x1.2.2)))) else (some ((a3 + 1), 0, x0.2.2))) :=
  (zrun_eq C zT_47 [5, 49] 75 _ _ _ _).trans (by rfl)

/-- X8_copyFrom (LOakCourt$Rules;)V -/
theorem ez_63 (d : Nat) (g : Nat) (h0 : Nat) (σ : zM) : zev (d + 1) 63 [.inr (.inr (g, 7)), .inr (.inr (h0, 7))] σ = (fun C : zC => ((C 148 [.inr (.inr (h0, 8)), .inr (.inr (g, 8))] (zwI σ g 7 0 (σ.1 h0 7 0))).bind fun x0 => (C 148 [.inr (.inr (h0, 9)), .inr (.inr (g, 9))] x0.2.2).bind fun x1 => (C 148 [.inr (.inr (h0, 10)), .inr (.inr (g, 10))] x1.2.2).bind fun x2 => (C 148 [.inr (.inr (h0, 11)), .inr (.inr (g, 11))] x2.2.2).bind fun x3 => (C 148 [.inr (.inr (h0, 12)), .inr (.inr (g, 12))] x3.2.2).bind fun x4 => some (0, 0, x4.2.2) : zR)) (zev d) :=
  (zev_m (T := zT_63) rfl rfl).trans ((zrun_eq (zev d) zT_63 [] 35 _ _ _ _).trans (by rfl))

/-- X8_setFacts (IIIII)V -/
theorem ez_64 (d : Nat) (g : Nat) (p0 : Int32) (p1 : Int32) (p2 : Int32) (p3 : Int32) (p4 : Int32) (σ : zM) : zev (d + 1) 64 [.inr (.inr (g, 7)), .inl p0, .inl p1, .inl p2, .inl p3, .inl p4] σ = (fun C : zC => (some (0, 0, zwI (zwI (zwI (zwI (zwI σ g 13 0 p0) g 13 1 p1) g 13 2 p2) g 13 3 p3) g 13 4 p4) : zR)) (zev d) :=
  (zev_m (T := zT_64) rfl rfl).trans ((zrun_eq (zev d) zT_64 [] 31 _ _ _ _).trans (by rfl))

/-- X8_changed (I)I -/
theorem ez_65 (d : Nat) (g : Nat) (p0 : Int32) (σ : zM) : zev (d + 1) 65 [.inr (.inr (g, 7)), .inl p0] σ = (fun C : zC => (zrun C zT_65 12 [some (.inr (.inr (g, 7))), some (.inl p0), some (.inl (σ.1 g 13 3)), some (.inl 0), some (.inl 0)] [] σ : zR)) (zev d) :=
  (zev_m (T := zT_65) rfl rfl).trans ((zrun_eq (zev d) zT_65 [12] 47 _ _ _ _).trans (by rfl))
theorem ez_65_12 (C : zC) (g : Nat) (a1 : Int32) (a2 : Int32) (a3 : Int32) (a4 : Int32) (σ : zM) : zrun C zT_65 12 [some (.inr (.inr (g, 7))), some (.inl a1), some (.inl a2), some (.inl a3), some (.inl a4)] [] σ = if a4 < (σ.1 g 7 0) then (zgd (zin a4 8) ((C 146 [.inl a1, .inl (σ.1 g 8 (Int32.toNatClampNeg a4))] σ).bind fun x0 => if x0.1 = 0 then (zgd (zin a4 8) (zrun C zT_65 12 [some (.inr (.inr (g, 7))), some (.inl a1), some (.inl a2), some (.inl (x0.2.2.1 g 11 (Int32.toNatClampNeg a4))), some (.inl (a4 + 1))] [] x0.2.2)) else (zgd (zin a4 8) ((C 67 [.inr (.inr (g, 7)), .inl a3, .inl (x0.2.2.1 g 11 (Int32.toNatClampNeg a4))] x0.2.2).bind fun x1 => if x1.1 = 0 then (zgd (zin a4 8) (zrun C zT_65 12 [some (.inr (.inr (g, 7))), some (.inl a1), some (.inl a2), some (.inl (x1.2.2.1 g 11 (Int32.toNatClampNeg a4))), some (.inl (a4 + 1))] [] x1.2.2)) else ((C 66 [.inr (.inr (g, 7)), .inl a4, .inl a2] x1.2.2).bind fun x2 => some (x2.1, 0, x2.2.2)))))) else (some (a2, 0, σ)) :=
  (zrun_eq C zT_65 [12] 47 _ _ _ _).trans (by rfl)

/-- X8_changedBy (II)I -/
theorem ez_66 (d : Nat) (g : Nat) (p0 : Int32) (p1 : Int32) (σ : zM) : zev (d + 1) 66 [.inr (.inr (g, 7)), .inl p0, .inl p1] σ = (fun C : zC => (zgd (zin p0 8) (if (σ.1 g 9 (Int32.toNatClampNeg p0)) = (-16) then (zgd (zin p0 8) (some ((p1 + (σ.1 g 10 (Int32.toNatClampNeg p0))), 0, σ))) else (zgd (zin p0 8) (if (σ.1 g 9 (Int32.toNatClampNeg p0)) = (-17) then (zgd (zin p0 8) ((C 272 [.inl 0, .inl (p1 - (σ.1 g 10 (Int32.toNatClampNeg p0)))] σ).bind fun x0 => some (x0.1, 0, x0.2.2))) else (some (0, 0, σ))))) : zR)) (zev d) :=
  (zev_m (T := zT_66) rfl rfl).trans ((zrun_eq (zev d) zT_66 [] 35 _ _ _ _).trans (by rfl))

/-- X8_isSo (II)Z -/
theorem ez_67 (d : Nat) (g : Nat) (p0 : Int32) (p1 : Int32) (σ : zM) : zev (d + 1) 67 [.inr (.inr (g, 7)), .inl p0, .inl p1] σ = (fun C : zC => (zrun C zT_67 5 [some (.inr (.inr (g, 7))), some (.inl p0), some (.inl p1), some (.inl 0), some (.inl p0), none] [] σ : zR)) (zev d) :=
  (zev_m (T := zT_67) rfl rfl).trans ((zrun_eq (zev d) zT_67 [5] 100 _ _ _ _).trans (by rfl))
theorem ez_67_5 (C : zC) (g : Nat) (d1 : Option zV) (a2 : Int32) (a3 : Int32) (a4 : Int32) (d5 : Option zV) (σ : zM) : zrun C zT_67 5 [some (.inr (.inr (g, 7))), d1, some (.inl a2), some (.inl a3), some (.inl a4), d5] [] σ = if a4 < a2 then (zgd (zin a4 200) (if (σ.1 g 12 (Int32.toNatClampNeg a4)) < (-5) then (if (σ.1 g 12 (Int32.toNatClampNeg a4)) = (-9) then (if 0 < a3 then (zgd (zin (a3 - 1) 16) (zgd (zin (a3 - 1) 16) (zrun C zT_67 5 [some (.inr (.inr (g, 7))), none, some (.inl a2), some (.inl a3), some (.inl (a4 + 1)), some (.inl (σ.1 g 12 (Int32.toNatClampNeg a4)))] [] (zwI σ g 14 (Int32.toNatClampNeg (a3 - 1)) (1 - (σ.1 g 14 (Int32.toNatClampNeg (a3 - 1)))))))) else (zrun C zT_67 5 [some (.inr (.inr (g, 7))), none, some (.inl a2), some (.inl a3), some (.inl (a4 + 1)), some (.inl (σ.1 g 12 (Int32.toNatClampNeg a4)))] [] σ)) else (if 1 < a3 then (zgd (zin ((a3 + (-1)) - 1) 16) (zgd (zin (a3 + (-1)) 16) ((C 68 [.inl (σ.1 g 12 (Int32.toNatClampNeg a4)), .inl (σ.1 g 14 (Int32.toNatClampNeg ((a3 + (-1)) - 1))), .inl (σ.1 g 14 (Int32.toNatClampNeg (a3 + (-1))))] σ).bind fun x0 => if x0.1 = 0 then (zgd (zin ((a3 + (-1)) - 1) 16) (zrun C zT_67 5 [some (.inr (.inr (g, 7))), none, some (.inl a2), some (.inl (a3 + (-1))), some (.inl (a4 + 1)), some (.inl (σ.1 g 12 (Int32.toNatClampNeg a4)))] [] (zwI x0.2.2 g 14 (Int32.toNatClampNeg ((a3 + (-1)) - 1)) 0))) else (zgd (zin ((a3 + (-1)) - 1) 16) (zrun C zT_67 5 [some (.inr (.inr (g, 7))), none, some (.inl a2), some (.inl (a3 + (-1))), some (.inl (a4 + 1)), some (.inl (σ.1 g 12 (Int32.toNatClampNeg a4)))] [] (zwI x0.2.2 g 14 (Int32.toNatClampNeg ((a3 + (-1)) - 1)) 1)))))) else (zrun C zT_67 5 [some (.inr (.inr (g, 7))), none, some (.inl a2), some (.inl a3), some (.inl (a4 + 1)), some (.inl (σ.1 g 12 (Int32.toNatClampNeg a4)))] [] σ))) else (if a3 < 16 then (if (σ.1 g 12 (Int32.toNatClampNeg a4)) < 0 then (zgd (zin ((-1) - (σ.1 g 12 (Int32.toNatClampNeg a4))) 5) (zgd (zin a3 16) (zrun C zT_67 5 [some (.inr (.inr (g, 7))), none, some (.inl a2), some (.inl (a3 + 1)), some (.inl (a4 + 1)), some (.inl (σ.1 g 12 (Int32.toNatClampNeg a4)))] [] (zwI σ g 14 (Int32.toNatClampNeg a3) (σ.1 g 13 (Int32.toNatClampNeg ((-1) - (σ.1 g 12 (Int32.toNatClampNeg a4))))))))) else (zgd (zin a3 16) (zrun C zT_67 5 [some (.inr (.inr (g, 7))), none, some (.inl a2), some (.inl (a3 + 1)), some (.inl (a4 + 1)), some (.inl (σ.1 g 12 (Int32.toNatClampNeg a4)))] [] (zwI σ g 14 (Int32.toNatClampNeg a3) (σ.1 g 12 (Int32.toNatClampNeg a4)))))) else (zrun C zT_67 5 [some (.inr (.inr (g, 7))), none, some (.inl a2), some (.inl a3), some (.inl (a4 + 1)), some (.inl (σ.1 g 12 (Int32.toNatClampNeg a4)))] [] σ)))) else (if a3 = 0 then (zgd (zret 3 1) (some (1, 0, σ))) else (zgd (zin (a3 - 1) 16) (if (σ.1 g 14 (Int32.toNatClampNeg (a3 - 1))) = 0 then (zgd (zret 3 0) (some (0, 0, σ))) else (zgd (zret 3 1) (some (1, 0, σ)))))) :=
  (zrun_eq C zT_67 [5] 100 _ _ _ _).trans (by rfl)

/-- X8_joined (III)Z -/
theorem ez_68 (d : Nat) (p0 : Int32) (p1 : Int32) (p2 : Int32) (σ : zM) : zev (d + 1) 68 [.inl p0, .inl p1, .inl p2] σ = (fun C : zC => (if p0 = (-10) then (if p1 = 0 then (zgd (zret 3 0) (some (0, 0, σ))) else (if p2 = 0 then (zgd (zret 3 0) (some (0, 0, σ))) else (zgd (zret 3 1) (some (1, 0, σ))))) else if p0 = (-9) then (if p1 = 0 then (if p2 = 0 then (zgd (zret 3 0) (some (0, 0, σ))) else (zgd (zret 3 1) (some (1, 0, σ)))) else (zgd (zret 3 1) (some (1, 0, σ)))) else if p0 = (-8) then (if p2 < p1 then (zgd (zret 3 1) (some (1, 0, σ))) else (zgd (zret 3 0) (some (0, 0, σ)))) else if p0 = (-7) then (if p1 = p2 then (zgd (zret 3 1) (some (1, 0, σ))) else (zgd (zret 3 0) (some (0, 0, σ)))) else if p0 = (-6) then (if p1 < p2 then (zgd (zret 3 1) (some (1, 0, σ))) else (zgd (zret 3 0) (some (0, 0, σ)))) else (if p1 = 0 then (if p2 = 0 then (zgd (zret 3 0) (some (0, 0, σ))) else (zgd (zret 3 1) (some (1, 0, σ)))) else (zgd (zret 3 1) (some (1, 0, σ)))) : zR)) (zev d) :=
  (zev_m (T := zT_68) rfl rfl).trans ((zrun_eq (zev d) zT_68 [] 44 _ _ _ _).trans (by rfl))
end
section
set_option maxRecDepth 20000
set_option linter.unusedVariables false
/-- X7_faultOf (LOakCourt$Tape;)I -/
theorem ez_48 (d : Nat)  (σ : zM) : zev (d + 1) 48 [.inr (.inr (0, 33)), .inr (.inr (0, 31))] σ = (fun C : zC => (zrun C zT_48 32 [some (.inr (.inr (0, 33))), some (.inr (.inr (0, 31))), some (.inl 0), some (.inl 0)] [] (zwI (zwI (zwI (zwI (zwI σ 4 7 0 0) 0 33 1 0) 0 33 3 0) 0 33 4 0) 0 33 6 0) : zR)) (zev d) :=
  (zev_m (T := zT_48) rfl rfl).trans ((zrun_eq (zev d) zT_48 [32] 65 _ _ _ _).trans (by rfl))
theorem ez_48_32 (C : zC) (a2 : Int32) (a3 : Int32) (σ : zM) : zrun C zT_48 32 [some (.inr (.inr (0, 33))), some (.inr (.inr (0, 31))), some (.inl a2), some (.inl a3)] [] σ = if a3 < (σ.1 0 31 0) then (if a3 < a2 then (zrun C zT_48 32 [some (.inr (.inr (0, 33))), some (.inr (.inr (0, 31))), some (.inl a2), some (.inl (a3 + 1))] [] σ) else ((C 76 [.inr (.inr (0, 31)), .inl a3] σ).bind fun x0 => if x0.1 = 0 then ((C 77 [.inr (.inr (0, 31)), .inl a3] x0.2.2).bind fun x1 => if (x1.2.2.1 4 7 0) < 8 then ((C 78 [.inr (.inr (0, 31)), .inl a3, .inl x1.1] x1.2.2).bind fun x2 => (C 49 [.inr (.inr (0, 33)), .inl x2.1] x2.2.2).bind fun x3 => if x3.1 = 0 then (some (a3, 0, x3.2.2)) else (zrun C zT_48 32 [some (.inr (.inr (0, 33))), some (.inr (.inr (0, 31))), some (.inl x1.1), some (.inl (a3 + 1))] [] x3.2.2)) else (some (a3, 0, x1.2.2))) else (zrun C zT_48 32 [some (.inr (.inr (0, 33))), some (.inr (.inr (0, 31))), some (.inl a2), some (.inl (a3 + 1))] [] x0.2.2))) else (if (σ.1 0 33 1) = 0 then (some ((-9), 0, σ)) else (some ((σ.1 0 31 0), 0, σ))) :=
  (zrun_eq C zT_48 [32] 65 _ _ _ _).trans (by rfl)

/-- X7_takes (I)Z -/
theorem ez_49 (d : Nat) (p0 : Int32) (σ : zM) : zev (d + 1) 49 [.inr (.inr (0, 33)), .inl p0] σ = (fun C : zC => (if (σ.1 0 33 1) = 0 then ((C 50 [.inr (.inr (0, 33)), .inl p0] σ).bind fun x0 => zgd (zret 3 x0.1) (some (x0.1, 0, x0.2.2))) else if (σ.1 0 33 1) = 1 then ((C 51 [.inr (.inr (0, 33)), .inl p0] σ).bind fun x1 => if x1.1 = 0 then ((C 52 [.inr (.inr (0, 33)), .inl p0] x1.2.2).bind fun x2 => if x2.1 = 0 then (zgd (zret 3 0) (some (0, 0, x2.2.2))) else (zgd (zret 3 1) (some (1, 0, x2.2.2)))) else (zgd (zret 3 1) (some (1, 0, x1.2.2)))) else if (σ.1 0 33 1) = 2 then ((C 53 [.inr (.inr (0, 33)), .inl p0] σ).bind fun x3 => zgd (zret 3 x3.1) (some (x3.1, 0, x3.2.2))) else if (σ.1 0 33 1) = 3 then ((C 54 [.inr (.inr (0, 33)), .inl p0] σ).bind fun x4 => zgd (zret 3 x4.1) (some (x4.1, 0, x4.2.2))) else if (σ.1 0 33 1) = 4 then ((C 55 [.inr (.inr (0, 33)), .inl p0] σ).bind fun x5 => zgd (zret 3 x5.1) (some (x5.1, 0, x5.2.2))) else if (σ.1 0 33 1) = 5 then ((C 56 [.inr (.inr (0, 33)), .inl p0] σ).bind fun x6 => zgd (zret 3 x6.1) (some (x6.1, 0, x6.2.2))) else if (σ.1 0 33 1) = 6 then ((C 57 [.inr (.inr (0, 33)), .inl p0] σ).bind fun x7 => zgd (zret 3 x7.1) (some (x7.1, 0, x7.2.2))) else ((C 58 [.inr (.inr (0, 33)), .inl p0] σ).bind fun x8 => if x8.1 = 0 then (if (x8.2.2.1 0 33 3) = 0 then ((C 52 [.inr (.inr (0, 33)), .inl p0] x8.2.2).bind fun x9 => if x9.1 = 0 then (zgd (zret 3 0) (some (0, 0, x9.2.2))) else (zgd (zret 3 1) (some (1, 0, x9.2.2)))) else (zgd (zret 3 0) (some (0, 0, x8.2.2)))) else (zgd (zret 3 1) (some (1, 0, x8.2.2)))) : zR)) (zev d) :=
  (zev_m (T := zT_49) rfl rfl).trans ((zrun_eq (zev d) zT_49 [] 59 _ _ _ _).trans (by rfl))

/-- X7_takesKind (I)Z -/
theorem ez_50 (d : Nat) (p0 : Int32) (σ : zM) : zev (d + 1) 50 [.inr (.inr (0, 33)), .inl p0] σ = (fun C : zC => ((C 141 [.inl ((-20) - p0), .inl 0, .inl 5] σ).bind fun x0 => if x0.1 = 0 then (zgd (zret 3 0) (some (0, 0, x0.2.2))) else (zgd (zin (x0.2.2.1 4 7 0) 8) (zgd (zret 3 1) (some (1, 0, zwI (zwI x0.2.2 4 8 (Int32.toNatClampNeg (x0.2.2.1 4 7 0)) ((-20) - p0)) 0 33 1 1)))) : zR)) (zev d) :=
  (zev_m (T := zT_50) rfl rfl).trans ((zrun_eq (zev d) zT_50 [] 29 _ _ _ _).trans (by rfl))

/-- X7_takesIf (I)Z -/
theorem ez_51 (d : Nat) (p0 : Int32) (σ : zM) : zev (d + 1) 51 [.inr (.inr (0, 33)), .inl p0] σ = (fun C : zC => (if p0 = (-15) then (zgd (zret 3 1) (some (1, 0, zwI σ 0 33 1 4))) else (zgd (zret 3 0) (some (0, 0, σ))) : zR)) (zev d) :=
  (zev_m (T := zT_51) rfl rfl).trans ((zrun_eq (zev d) zT_51 [] 15 _ _ _ _).trans (by rfl))

/-- X7_takesDeed (I)Z -/
theorem ez_52 (d : Nat) (p0 : Int32) (σ : zM) : zev (d + 1) 52 [.inr (.inr (0, 33)), .inl p0] σ = (fun C : zC => (if p0 = (-16) then (zrun C zT_52 20 [some (.inr (.inr (0, 33))), some (.inl p0)] [] σ) else (if p0 = (-17) then (zrun C zT_52 20 [some (.inr (.inr (0, 33))), some (.inl p0)] [] σ) else (if p0 = (-18) then (zrun C zT_52 20 [some (.inr (.inr (0, 33))), some (.inl p0)] [] σ) else (zgd (zret 3 0) (some (0, 0, σ))))) : zR)) (zev d) :=
  (zev_m (T := zT_52) rfl rfl).trans ((zrun_eq (zev d) zT_52 [20] 37 _ _ _ _).trans (by rfl))
theorem ez_52_20 (C : zC) (a1 : Int32) (σ : zM) : zrun C zT_52 20 [some (.inr (.inr (0, 33))), some (.inl a1)] [] σ = (C 61 [.inr (.inr (0, 33)), .inl (-11)] σ).bind fun x0 => zgd (zin (x0.2.2.1 4 7 0) 8) (if a1 = (-18) then (zgd (zret 3 1) (some (1, 0, zwI (zwI x0.2.2 4 9 (Int32.toNatClampNeg (x0.2.2.1 4 7 0)) a1) 0 33 1 3))) else (zgd (zret 3 1) (some (1, 0, zwI (zwI x0.2.2 4 9 (Int32.toNatClampNeg (x0.2.2.1 4 7 0)) a1) 0 33 1 2)))) :=
  (zrun_eq C zT_52 [20] 37 _ _ _ _).trans (by rfl)

/-- X7_takesAmount (I)Z -/
theorem ez_53 (d : Nat) (p0 : Int32) (σ : zM) : zev (d + 1) 53 [.inr (.inr (0, 33)), .inl p0] σ = (fun C : zC => ((C 141 [.inl p0, .inl 0, .inl 999] σ).bind fun x0 => if x0.1 = 0 then (zgd (zret 3 0) (some (0, 0, x0.2.2))) else (zgd (zin (x0.2.2.1 4 7 0) 8) (zgd (zret 3 1) (some (1, 0, zwI (zwI x0.2.2 4 10 (Int32.toNatClampNeg (x0.2.2.1 4 7 0)) p0) 0 33 1 3)))) : zR)) (zev d) :=
  (zev_m (T := zT_53) rfl rfl).trans ((zrun_eq (zev d) zT_53 [] 25 _ _ _ _).trans (by rfl))

/-- X7_takesEnd (I)Z -/
theorem ez_54 (d : Nat) (p0 : Int32) (σ : zM) : zev (d + 1) 54 [.inr (.inr (0, 33)), .inl p0] σ = (fun C : zC => (if p0 = (-14) then (zgd (zin (σ.1 4 7 0) 8) (zgd (zret 3 1) (some (1, 0, zwI (zwI (zwI σ 4 11 (Int32.toNatClampNeg (σ.1 4 7 0)) (σ.1 0 33 4)) 4 7 0 (((zwI σ 4 11 (Int32.toNatClampNeg (σ.1 4 7 0)) (σ.1 0 33 4)).1 4 7 0) + 1)) 0 33 1 0)))) else (zgd (zret 3 0) (some (0, 0, σ))) : zR)) (zev d) :=
  (zev_m (T := zT_54) rfl rfl).trans ((zrun_eq (zev d) zT_54 [] 31 _ _ _ _).trans (by rfl))

/-- X7_takesOne (I)Z -/
theorem ez_55 (d : Nat) (p0 : Int32) (σ : zM) : zev (d + 1) 55 [.inr (.inr (0, 33)), .inl p0] σ = (fun C : zC => (if p0 = (-9) then ((C 60 [.inr (.inr (0, 33)), .inl (-9)] σ).bind fun x0 => zgd (zret 3 1) (some (1, 0, x0.2.2))) else (if p0 = (-12) then (if (σ.1 0 33 3) < 3 then ((C 60 [.inr (.inr (0, 33)), .inl (-12)] (zwI σ 0 33 3 ((σ.1 0 33 3) + 1))).bind fun x1 => zgd (zret 3 1) (some (1, 0, x1.2.2))) else ((C 59 [.inl p0] σ).bind fun x2 => if x2.1 = 0 then (zgd (zret 3 0) (some (0, 0, x2.2.2))) else ((C 62 [.inr (.inr (0, 33)), .inl p0] x2.2.2).bind fun x3 => zgd (zret 3 1) (some (1, 0, zwI x3.2.2 0 33 1 5))))) else ((C 59 [.inl p0] σ).bind fun x4 => if x4.1 = 0 then (zgd (zret 3 0) (some (0, 0, x4.2.2))) else ((C 62 [.inr (.inr (0, 33)), .inl p0] x4.2.2).bind fun x5 => zgd (zret 3 1) (some (1, 0, zwI x5.2.2 0 33 1 5))))) : zR)) (zev d) :=
  (zev_m (T := zT_55) rfl rfl).trans ((zrun_eq (zev d) zT_55 [] 44 _ _ _ _).trans (by rfl))

/-- X7_takesSign (I)Z -/
theorem ez_56 (d : Nat) (p0 : Int32) (σ : zM) : zev (d + 1) 56 [.inr (.inr (0, 33)), .inl p0] σ = (fun C : zC => ((C 141 [.inl p0, .inl (-8), .inl (-6)] σ).bind fun x0 => if x0.1 = 0 then (zgd (zret 3 0) (some (0, 0, x0.2.2))) else (zgd (zret 3 1) (some (1, 0, zwI (zwI x0.2.2 0 33 2 p0) 0 33 1 6))) : zR)) (zev d) :=
  (zev_m (T := zT_56) rfl rfl).trans ((zrun_eq (zev d) zT_56 [] 20 _ _ _ _).trans (by rfl))

/-- X7_takesValue (I)Z -/
theorem ez_57 (d : Nat) (p0 : Int32) (σ : zM) : zev (d + 1) 57 [.inr (.inr (0, 33)), .inl p0] σ = (fun C : zC => ((C 59 [.inl p0] σ).bind fun x0 => if x0.1 = 0 then (zgd (zret 3 0) (some (0, 0, x0.2.2))) else ((C 62 [.inr (.inr (0, 33)), .inl p0] x0.2.2).bind fun x1 => (C 62 [.inr (.inr (0, 33)), .inl (x1.2.2.1 0 33 2)] x1.2.2).bind fun x2 => zgd (zret 3 1) (some (1, 0, zwI x2.2.2 0 33 1 7))) : zR)) (zev d) :=
  (zev_m (T := zT_57) rfl rfl).trans ((zrun_eq (zev d) zT_57 [] 22 _ _ _ _).trans (by rfl))

/-- X7_takesJoint (I)Z -/
theorem ez_58 (d : Nat) (p0 : Int32) (σ : zM) : zev (d + 1) 58 [.inr (.inr (0, 33)), .inl p0] σ = (fun C : zC => (if p0 = (-10) then ((C 61 [.inr (.inr (0, 33)), .inl p0] σ).bind fun x0 => (C 60 [.inr (.inr (0, 33)), .inl p0] x0.2.2).bind fun x1 => zgd (zret 3 1) (some (1, 0, zwI x1.2.2 0 33 1 4))) else (if p0 = (-11) then ((C 61 [.inr (.inr (0, 33)), .inl p0] σ).bind fun x2 => (C 60 [.inr (.inr (0, 33)), .inl p0] x2.2.2).bind fun x3 => zgd (zret 3 1) (some (1, 0, zwI x3.2.2 0 33 1 4))) else (if p0 = (-13) then (if (σ.1 0 33 3) = 0 then (zgd (zret 3 0) (some (0, 0, σ))) else ((C 61 [.inr (.inr (0, 33)), .inl (-11)] σ).bind fun x4 => (C 272 [.inl 0, .inl ((x4.2.2.1 0 33 6) - 1)] x4.2.2).bind fun x5 => zgd (zret 3 1) (some (1, 0, zwI (zwI x5.2.2 0 33 6 x5.1) 0 33 3 (((zwI x5.2.2 0 33 6 x5.1).1 0 33 3) - 1))))) else (zgd (zret 3 0) (some (0, 0, σ))))) : zR)) (zev d) :=
  (zev_m (T := zT_58) rfl rfl).trans ((zrun_eq (zev d) zT_58 [] 49 _ _ _ _).trans (by rfl))

/-- X7_isValue (I)Z -/
theorem ez_59 (d : Nat) (p0 : Int32) (σ : zM) : zev (d + 1) 59 [.inl p0] σ = (fun C : zC => (if p0 < (-5) then (zgd (zret 3 0) (some (0, 0, σ))) else (zgd (zret 3 1) (some (1, 0, σ))) : zR)) (zev d) :=
  (zev_m (T := zT_59) rfl rfl).trans ((zrun_eq (zev d) zT_59 [] 12 _ _ _ _).trans (by rfl))

/-- X7_await (I)V -/
theorem ez_60 (d : Nat) (p0 : Int32) (σ : zM) : zev (d + 1) 60 [.inr (.inr (0, 33)), .inl p0] σ = (fun C : zC => (if (σ.1 0 33 6) < 200 then (zgd (zin (σ.1 0 33 6) 200) (some (0, 0, zwI (zwI σ 0 34 (Int32.toNatClampNeg (σ.1 0 33 6)) p0) 0 33 6 (((zwI σ 0 34 (Int32.toNatClampNeg (σ.1 0 33 6)) p0).1 0 33 6) + 1)))) else (some (0, 0, σ)) : zR)) (zev d) :=
  (zev_m (T := zT_60) rfl rfl).trans ((zrun_eq (zev d) zT_60 [] 22 _ _ _ _).trans (by rfl))

/-- X7_settle (I)V -/
theorem ez_61 (d : Nat) (p0 : Int32) (σ : zM) : zev (d + 1) 61 [.inr (.inr (0, 33)), .inl p0] σ = (fun C : zC => (zrun C zT_61 7 [some (.inr (.inr (0, 33))), some (.inl p0), some (.inl ((σ.1 0 33 6) - 1))] [] σ : zR)) (zev d) :=
  (zev_m (T := zT_61) rfl rfl).trans ((zrun_eq (zev d) zT_61 [7] 30 _ _ _ _).trans (by rfl))
theorem ez_61_7 (C : zC) (a1 : Int32) (a2 : Int32) (σ : zM) : zrun C zT_61 7 [some (.inr (.inr (0, 33))), some (.inl a1), some (.inl a2)] [] σ = if a2 < 0 then (some (0, 0, σ)) else (zgd (zin a2 200) (if (σ.1 0 34 (Int32.toNatClampNeg a2)) < a1 then (some (0, 0, σ)) else (zgd (zin a2 200) ((C 62 [.inr (.inr (0, 33)), .inl (σ.1 0 34 (Int32.toNatClampNeg a2))] σ).bind fun x0 => zrun C zT_61 7 [some (.inr (.inr (0, 33))), some (.inl a1), some (.inl (a2 + (-1)))] [] (zwI x0.2.2 0 33 6 a2))))) :=
  (zrun_eq C zT_61 [7] 30 _ _ _ _).trans (by rfl)

/-- X7_step (I)V -/
theorem ez_62 (d : Nat) (p0 : Int32) (σ : zM) : zev (d + 1) 62 [.inr (.inr (0, 33)), .inl p0] σ = (fun C : zC => (if (σ.1 0 33 4) < 200 then (zgd (zin (σ.1 0 33 4) 200) (some (0, 0, zwI (zwI σ 4 12 (Int32.toNatClampNeg (σ.1 0 33 4)) p0) 0 33 4 (((zwI σ 4 12 (Int32.toNatClampNeg (σ.1 0 33 4)) p0).1 0 33 4) + 1)))) else (some (0, 0, σ)) : zR)) (zev d) :=
  (zev_m (T := zT_62) rfl rfl).trans ((zrun_eq (zev d) zT_62 [] 23 _ _ _ _).trans (by rfl))

/-- X9_finds (LOakCourt$Oak;I)Z -/
theorem ez_69 (d : Nat) (h0 : Nat) (p1 : Int32) (σ : zM) : zev (d + 1) 69 [.inr (.inr (0, 35)), .inr (.inr (h0, 0)), .inl p1] σ = (fun C : zC => ((C 25 [.inr (.inr (3, 0)), .inr (.inr (h0, 0))] σ).bind fun x0 => zrun C zT_69 15 [some (.inr (.inr (0, 35))), some (.inr (.inr (h0, 0))), some (.inl p1), some (.inl 0)] [] (zwI x0.2.2 0 35 0 0) : zR)) (zev d) :=
  (zev_m (T := zT_69) rfl rfl).trans ((zrun_eq (zev d) zT_69 [15] 65 _ _ _ _).trans (by rfl))
theorem ez_69_15 (C : zC) (d1 : Option zV) (a2 : Int32) (a3 : Int32) (σ : zM) : zrun C zT_69 15 [some (.inr (.inr (0, 35))), d1, some (.inl a2), some (.inl a3)] [] σ = if a3 < (σ.1 3 15 0) then ((C 145 [.inl a2, .inl a3] σ).bind fun x0 => if x0.1 = 0 then (zrun C zT_69 15 [some (.inr (.inr (0, 35))), none, some (.inl a2), some (.inl (a3 + 1))] [] x0.2.2) else (if (x0.2.2.1 0 35 0) < 4 then (zgd (zin (x0.2.2.1 0 35 0) 4) (zgd (zin a3 8) (zrun C zT_69 15 [some (.inr (.inr (0, 35))), none, some (.inl a2), some (.inl (a3 + 1))] [] (zwI (zwI (zwI x0.2.2 0 36 (Int32.toNatClampNeg (x0.2.2.1 0 35 0)) a3) 0 35 0 (((zwI x0.2.2 0 36 (Int32.toNatClampNeg (x0.2.2.1 0 35 0)) a3).1 0 35 0) + 1)) 3 18 (Int32.toNatClampNeg a3) (-9))))) else (zrun C zT_69 15 [some (.inr (.inr (0, 35))), none, some (.inl a2), some (.inl (a3 + 1))] [] x0.2.2))) else ((C 27 [.inr (.inr (3, 0))] σ).bind fun x1 => (C 29 [.inr (.inr (3, 0))] x1.2.2).bind fun x2 => if x2.1 = 0 then ((C 70 [.inr (.inr (0, 35)), .inl 0] x2.2.2).bind fun x3 => if x3.1 = 0 then (zgd (zret 3 0) (some (0, 0, x3.2.2))) else (zgd (zret 3 1) (some (1, 0, x3.2.2)))) else (zgd (zret 3 0) (some (0, 0, x2.2.2)))) :=
  (zrun_eq C zT_69 [15] 65 _ _ _ _).trans (by rfl)

/-- X9_seatsFrom (I)Z -/
theorem ez_70 (d : Nat) (p0 : Int32) (σ : zM) : zev (d + 1) 70 [.inr (.inr (0, 35)), .inl p0] σ = (fun C : zC => (if p0 < (σ.1 0 35 0) then (zgd (zin p0 4) (zgd (zin (σ.1 0 36 (Int32.toNatClampNeg p0)) 8) (zrun C zT_70 30 [some (.inr (.inr (0, 35))), some (.inl p0), some (.inl (σ.1 3 16 (Int32.toNatClampNeg (σ.1 0 36 (Int32.toNatClampNeg p0))))), some (.inl 0)] [] σ))) else (zgd (zret 3 1) (some (1, 0, σ))) : zR)) (zev d) :=
  (zev_m (T := zT_70) rfl rfl).trans ((zrun_eq (zev d) zT_70 [30] 68 _ _ _ _).trans (by rfl))
theorem ez_70_30 (C : zC) (a1 : Int32) (a2 : Int32) (a3 : Int32) (σ : zM) : zrun C zT_70 30 [some (.inr (.inr (0, 35))), some (.inl a1), some (.inl a2), some (.inl a3)] [] σ = if a3 < (σ.1 3 1 0) then ((C 14 [.inr (.inr (3, 1)), .inl a3] σ).bind fun x0 => if x0.1 = 0 then (zrun C zT_70 30 [some (.inr (.inr (0, 35))), some (.inl a1), some (.inl a2), some (.inl (a3 + 1))] [] x0.2.2) else (zgd (zin a1 4) ((C 28 [.inr (.inr (3, 0)), .inl a3, .inl a2] (zwI x0.2.2 0 37 (Int32.toNatClampNeg a1) a3)).bind fun x1 => (C 29 [.inr (.inr (3, 0))] x1.2.2).bind fun x2 => if x2.1 = 0 then ((C 70 [.inr (.inr (0, 35)), .inl (a1 + 1)] x2.2.2).bind fun x3 => if x3.1 = 0 then ((C 28 [.inr (.inr (3, 0)), .inl a3, .inl (-a2)] x3.2.2).bind fun x4 => zrun C zT_70 30 [some (.inr (.inr (0, 35))), some (.inl a1), some (.inl a2), some (.inl (a3 + 1))] [] x4.2.2) else (zgd (zret 3 1) (some (1, 0, x3.2.2)))) else ((C 28 [.inr (.inr (3, 0)), .inl a3, .inl (-a2)] x2.2.2).bind fun x5 => zrun C zT_70 30 [some (.inr (.inr (0, 35))), some (.inl a1), some (.inl a2), some (.inl (a3 + 1))] [] x5.2.2)))) else (zgd (zret 3 0) (some (0, 0, σ))) :=
  (zrun_eq C zT_70 [30] 68 _ _ _ _).trans (by rfl)

/-- X9_gameValue (LOakCourt$Oak;II)I -/
theorem ez_71 (d : Nat) (h0 : Nat) (p1 : Int32) (p2 : Int32) (σ : zM) : zev (d + 1) 71 [.inr (.inr (0, 35)), .inr (.inr (h0, 0)), .inl p1, .inl p2] σ = (fun C : zC => ((C 25 [.inr (.inr (3, 0)), .inr (.inr (h0, 0))] σ).bind fun x0 => (C 27 [.inr (.inr (3, 0))] x0.2.2).bind fun x1 => (C 73 [.inr (.inr (0, 35)), .inl p1, .inl p2] x1.2.2).bind fun x2 => some (x2.1, 0, x2.2.2) : zR)) (zev d) :=
  (zev_m (T := zT_71) rfl rfl).trans ((zrun_eq (zev d) zT_71 [] 17 _ _ _ _).trans (by rfl))

/-- X9_firstMove (LOakCourt$Oak;II)I -/
theorem ez_72 (d : Nat) (h0 : Nat) (p1 : Int32) (p2 : Int32) (σ : zM) : zev (d + 1) 72 [.inr (.inr (0, 35)), .inr (.inr (h0, 0)), .inl p1, .inl p2] σ = (fun C : zC => ((C 71 [.inr (.inr (0, 35)), .inr (.inr (h0, 0)), .inl p1, .inl p2] σ).bind fun x0 => (C 39 [.inr (.inr (3, 15)), .inl p1] x0.2.2).bind fun x1 => if x1.1 = (-9) then (some ((-3), 0, x1.2.2)) else (zrun C zT_72 35 [some (.inr (.inr (0, 35))), some (.inr (.inr (h0, 0))), some (.inl p1), some (.inl p2), some (.inl x0.1), some (.inl x1.1), some (.inl 0)] [] x1.2.2) : zR)) (zev d) :=
  (zev_m (T := zT_72) rfl rfl).trans ((zrun_eq (zev d) zT_72 [35] 49 _ _ _ _).trans (by rfl))
theorem ez_72_35 (C : zC) (d1 : Option zV) (d2 : Option zV) (a3 : Int32) (a4 : Int32) (a5 : Int32) (a6 : Int32) (σ : zM) : zrun C zT_72 35 [some (.inr (.inr (0, 35))), d1, d2, some (.inl a3), some (.inl a4), some (.inl a5), some (.inl a6)] [] σ = if a6 < (σ.1 3 1 0) then ((C 14 [.inr (.inr (3, 1)), .inl a6] σ).bind fun x0 => if x0.1 = 0 then (zrun C zT_72 35 [some (.inr (.inr (0, 35))), none, none, some (.inl a3), some (.inl a4), some (.inl a5), some (.inl (a6 + 1))] [] x0.2.2) else ((C 74 [.inr (.inr (0, 35)), .inl a5, .inl a6, .inl a3] x0.2.2).bind fun x1 => if x1.1 = a4 then (some (a6, 0, x1.2.2)) else (zrun C zT_72 35 [some (.inr (.inr (0, 35))), none, none, some (.inl a3), some (.inl a4), some (.inl a5), some (.inl (a6 + 1))] [] x1.2.2))) else (some ((-3), 0, σ)) :=
  (zrun_eq C zT_72 [35] 49 _ _ _ _).trans (by rfl)

/-- X9_valueOf (II)I -/
theorem ez_73 (d : Nat) (p0 : Int32) (p1 : Int32) (σ : zM) : zev (d + 1) 73 [.inr (.inr (0, 35)), .inl p0, .inl p1] σ = (fun C : zC => ((C 39 [.inr (.inr (3, 15)), .inl p0] σ).bind fun x0 => if 0 < p1 then (if x0.1 = (-9) then (some (2, 0, x0.2.2)) else (zrun C zT_73 35 [some (.inr (.inr (0, 35))), some (.inl p0), some (.inl p1), some (.inl x0.1), some (.inl 0), some (.inl (1 - p0)), some (.inl 0), none] [] x0.2.2)) else (some (2, 0, x0.2.2)) : zR)) (zev d) :=
  (zev_m (T := zT_73) rfl rfl).trans ((zrun_eq (zev d) zT_73 [35] 65 _ _ _ _).trans (by rfl))
theorem ez_73_35 (C : zC) (a1 : Int32) (a2 : Int32) (a3 : Int32) (a4 : Int32) (a5 : Int32) (a6 : Int32) (d7 : Option zV) (σ : zM) : zrun C zT_73 35 [some (.inr (.inr (0, 35))), some (.inl a1), some (.inl a2), some (.inl a3), some (.inl a4), some (.inl a5), some (.inl a6), d7] [] σ = if a6 < (σ.1 3 1 0) then (if a5 = a1 then (if a4 = 0 then (some (2, 0, σ)) else (some (a5, 0, σ))) else ((C 14 [.inr (.inr (3, 1)), .inl a6] σ).bind fun x0 => if x0.1 = 0 then (zrun C zT_73 35 [some (.inr (.inr (0, 35))), some (.inl a1), some (.inl a2), some (.inl a3), some (.inl a4), some (.inl a5), some (.inl (a6 + 1)), none] [] x0.2.2) else ((C 74 [.inr (.inr (0, 35)), .inl a3, .inl a6, .inl a2] x0.2.2).bind fun x1 => if x1.1 = (1 - a1) then (zrun C zT_73 35 [some (.inr (.inr (0, 35))), some (.inl a1), some (.inl a2), some (.inl a3), some (.inl 1), some (.inl a5), some (.inl (a6 + 1)), some (.inl x1.1)] [] x1.2.2) else (zrun C zT_73 35 [some (.inr (.inr (0, 35))), some (.inl a1), some (.inl a2), some (.inl a3), some (.inl 1), some (.inl x1.1), some (.inl (a6 + 1)), some (.inl x1.1)] [] x1.2.2)))) else (if a4 = 0 then (some (2, 0, σ)) else (some (a5, 0, σ))) :=
  (zrun_eq C zT_73 [35] 65 _ _ _ _).trans (by rfl)

/-- X9_valueBehind (III)I -/
theorem ez_74 (d : Nat) (p0 : Int32) (p1 : Int32) (p2 : Int32) (σ : zM) : zev (d + 1) 74 [.inr (.inr (0, 35)), .inl p0, .inl p1, .inl p2] σ = (fun C : zC => (zgd (zin p0 8) (zgd (zin p0 8) (zgd (zin p0 8) ((C 28 [.inr (.inr (3, 0)), .inl p1, .inl (σ.1 3 16 (Int32.toNatClampNeg p0))] (zwI σ 3 18 (Int32.toNatClampNeg p0) p1)).bind fun x0 => (C 29 [.inr (.inr (3, 0))] x0.2.2).bind fun x1 => if x1.1 = 0 then ((C 73 [.inr (.inr (0, 35)), .inl (1 - (σ.1 3 17 (Int32.toNatClampNeg p0))), .inl (p2 - 1)] x1.2.2).bind fun x2 => zrun C zT_74 79 [some (.inr (.inr (0, 35))), some (.inl p0), some (.inl p1), some (.inl p2), some (.inl (σ.1 3 17 (Int32.toNatClampNeg p0))), some (.inl (σ.1 3 16 (Int32.toNatClampNeg p0))), none] [.inl x2.1] x2.2.2) else (zrun C zT_74 79 [some (.inr (.inr (0, 35))), some (.inl p0), some (.inl p1), some (.inl p2), some (.inl (σ.1 3 17 (Int32.toNatClampNeg p0))), some (.inl (σ.1 3 16 (Int32.toNatClampNeg p0))), none] [.inl (1 - (σ.1 3 17 (Int32.toNatClampNeg p0)))] x1.2.2)))) : zR)) (zev d) :=
  (zev_m (T := zT_74) rfl rfl).trans ((zrun_eq (zev d) zT_74 [79] 63 _ _ _ _).trans (by rfl))
theorem ez_74_79 (C : zC) (a1 : Int32) (a2 : Int32) (d3 : Option zV) (d4 : Option zV) (a5 : Int32) (d6 : Option zV) (s0 : Int32) (σ : zM) : zrun C zT_74 79 [some (.inr (.inr (0, 35))), some (.inl a1), some (.inl a2), d3, d4, some (.inl a5), d6] [.inl s0] σ = (C 28 [.inr (.inr (3, 0)), .inl a2, .inl (-a5)] σ).bind fun x0 => zgd (zin a1 8) (some (s0, 0, zwI x0.2.2 3 18 (Int32.toNatClampNeg a1) (-9))) :=
  (zrun_eq C zT_74 [79] 63 _ _ _ _).trans (by rfl)

/-- X10_append (JI)V -/
theorem ez_75 (d : Nat) (p0 : Int64) (p1 : Int32) (σ : zM) : zev (d + 1) 75 [.inr (.inr (0, 31)), .inr (.inl p0), .inl p1] σ = (fun C : zC => (zrun C zT_75 3 [some (.inr (.inr (0, 31))), some (.inr (.inl p0)), none, some (.inl p1), some (.inl 0)] [] σ : zR)) (zev d) :=
  (zev_m (T := zT_75) rfl rfl).trans ((zrun_eq (zev d) zT_75 [3] 36 _ _ _ _).trans (by rfl))
theorem ez_75_3 (C : zC) (a1 : Int64) (d2 : Option zV) (a3 : Int32) (a4 : Int32) (σ : zM) : zrun C zT_75 3 [some (.inr (.inr (0, 31))), some (.inr (.inl a1)), d2, some (.inl a3), some (.inl a4)] [] σ = if a4 < a3 then (if (σ.1 0 31 0) < 200 then (zgd (zin (σ.1 0 31 0) 200) (zrun C zT_75 3 [some (.inr (.inr (0, 31))), some (.inr (.inl a1)), none, some (.inl a3), some (.inl (a4 + 1))] [] (zwI (zwI σ 0 32 (Int32.toNatClampNeg (σ.1 0 31 0)) ((Int64.toInt32 ((Int64.toUInt64 a1 >>> ((Int32.toInt64 (8 * a4)).toUInt64 &&& Int64.toUInt64 63)).toInt64)) &&& 255)) 0 31 0 (((zwI σ 0 32 (Int32.toNatClampNeg (σ.1 0 31 0)) ((Int64.toInt32 ((Int64.toUInt64 a1 >>> ((Int32.toInt64 (8 * a4)).toUInt64 &&& Int64.toUInt64 63)).toInt64)) &&& 255)).1 0 31 0) + 1)))) else (some (0, 0, σ))) else (some (0, 0, σ)) :=
  (zrun_eq C zT_75 [3] 36 _ _ _ _).trans (by rfl)

/-- X10_isBlank (I)Z -/
theorem ez_76 (d : Nat) (p0 : Int32) (σ : zM) : zev (d + 1) 76 [.inr (.inr (0, 31)), .inl p0] σ = (fun C : zC => (zgd (zin p0 200) (if (σ.1 0 32 (Int32.toNatClampNeg p0)) = 32 then (zgd (zret 3 1) (some (1, 0, σ))) else (zgd (zret 3 0) (some (0, 0, σ)))) : zR)) (zev d) :=
  (zev_m (T := zT_76) rfl rfl).trans ((zrun_eq (zev d) zT_76 [] 15 _ _ _ _).trans (by rfl))

/-- X10_endOfWord (I)I -/
theorem ez_77 (d : Nat) (p0 : Int32) (σ : zM) : zev (d + 1) 77 [.inr (.inr (0, 31)), .inl p0] σ = (fun C : zC => (zgd (zin p0 200) ((C 82 [.inl (σ.1 0 32 (Int32.toNatClampNeg p0))] σ).bind fun x0 => if x0.1 = 0 then (zgd (zin p0 200) ((C 83 [.inl (x0.2.2.1 0 32 (Int32.toNatClampNeg p0))] x0.2.2).bind fun x1 => if x1.1 = 0 then (some ((p0 + 1), 0, x1.2.2)) else (zrun C zT_77 34 [some (.inr (.inr (0, 31))), some (.inl p0), some (.inl x0.1), some (.inl (p0 + 1))] [] x1.2.2))) else (zrun C zT_77 34 [some (.inr (.inr (0, 31))), some (.inl p0), some (.inl x0.1), some (.inl (p0 + 1))] [] x0.2.2)) : zR)) (zev d) :=
  (zev_m (T := zT_77) rfl rfl).trans ((zrun_eq (zev d) zT_77 [34] 53 _ _ _ _).trans (by rfl))
theorem ez_77_34 (C : zC) (d1 : Option zV) (a2 : Int32) (a3 : Int32) (σ : zM) : zrun C zT_77 34 [some (.inr (.inr (0, 31))), d1, some (.inl a2), some (.inl a3)] [] σ = if a3 < (σ.1 0 31 0) then (if a2 = 0 then (zgd (zin a3 200) ((C 83 [.inl (σ.1 0 32 (Int32.toNatClampNeg a3))] σ).bind fun x0 => if x0.1 = 0 then (some (a3, 0, x0.2.2)) else (zrun C zT_77 34 [some (.inr (.inr (0, 31))), none, some (.inl a2), some (.inl (a3 + 1))] [] x0.2.2))) else (zgd (zin a3 200) ((C 82 [.inl (σ.1 0 32 (Int32.toNatClampNeg a3))] σ).bind fun x1 => if x1.1 = 0 then (some (a3, 0, x1.2.2)) else (zrun C zT_77 34 [some (.inr (.inr (0, 31))), none, some (.inl a2), some (.inl (a3 + 1))] [] x1.2.2)))) else (some ((σ.1 0 31 0), 0, σ)) :=
  (zrun_eq C zT_77 [34] 53 _ _ _ _).trans (by rfl)

/-- X10_word (II)I -/
theorem ez_78 (d : Nat) (p0 : Int32) (p1 : Int32) (σ : zM) : zev (d + 1) 78 [.inr (.inr (0, 31)), .inl p0, .inl p1] σ = (fun C : zC => (zgd (zin p0 200) ((C 82 [.inl (σ.1 0 32 (Int32.toNatClampNeg p0))] σ).bind fun x0 => if x0.1 = 0 then (zgd (zin p0 200) ((C 83 [.inl (x0.2.2.1 0 32 (Int32.toNatClampNeg p0))] x0.2.2).bind fun x1 => if x1.1 = 0 then (zgd (zin p0 200) (if (x1.2.2.1 0 32 (Int32.toNatClampNeg p0)) = 40 then (some ((-12), 0, x1.2.2)) else if (x1.2.2.1 0 32 (Int32.toNatClampNeg p0)) = 41 then (some ((-13), 0, x1.2.2)) else if (x1.2.2.1 0 32 (Int32.toNatClampNeg p0)) = 59 then (some ((-14), 0, x1.2.2)) else if (x1.2.2.1 0 32 (Int32.toNatClampNeg p0)) = 60 then (some ((-6), 0, x1.2.2)) else if (x1.2.2.1 0 32 (Int32.toNatClampNeg p0)) = 61 then (some ((-7), 0, x1.2.2)) else if (x1.2.2.1 0 32 (Int32.toNatClampNeg p0)) = 62 then (some ((-8), 0, x1.2.2)) else (some ((-30), 0, x1.2.2)))) else ((C 79 [.inr (.inr (0, 31)), .inl p0, .inl p1] x1.2.2).bind fun x2 => some (x2.1, 0, x2.2.2)))) else ((C 80 [.inr (.inr (0, 31)), .inl p0, .inl p1] x0.2.2).bind fun x3 => some (x3.1, 0, x3.2.2))) : zR)) (zev d) :=
  (zev_m (T := zT_78) rfl rfl).trans ((zrun_eq (zev d) zT_78 [] 46 _ _ _ _).trans (by rfl))

/-- X10_numberWord (II)I -/
theorem ez_79 (d : Nat) (p0 : Int32) (p1 : Int32) (σ : zM) : zev (d + 1) 79 [.inr (.inr (0, 31)), .inl p0, .inl p1] σ = (fun C : zC => (if 4 < (p1 - p0) then (some ((-30), 0, σ)) else (zrun C zT_79 15 [some (.inr (.inr (0, 31))), some (.inl p0), some (.inl p1), some (.inl 0), some (.inl p0)] [] σ) : zR)) (zev d) :=
  (zev_m (T := zT_79) rfl rfl).trans ((zrun_eq (zev d) zT_79 [15] 34 _ _ _ _).trans (by rfl))
theorem ez_79_15 (C : zC) (d1 : Option zV) (a2 : Int32) (a3 : Int32) (a4 : Int32) (σ : zM) : zrun C zT_79 15 [some (.inr (.inr (0, 31))), d1, some (.inl a2), some (.inl a3), some (.inl a4)] [] σ = if a4 < a2 then (zgd (zin a4 200) (zrun C zT_79 15 [some (.inr (.inr (0, 31))), none, some (.inl a2), some (.inl ((a3 * 10) + ((σ.1 0 32 (Int32.toNatClampNeg a4)) - 48))), some (.inl (a4 + 1))] [] σ)) else (some (a3, 0, σ)) :=
  (zrun_eq C zT_79 [15] 34 _ _ _ _).trans (by rfl)

/-- X10_nameWord (II)I -/
theorem ez_80 (d : Nat) (p0 : Int32) (p1 : Int32) (σ : zM) : zev (d + 1) 80 [.inr (.inr (0, 31)), .inl p0, .inl p1] σ = (fun C : zC => ((C 81 [.inr (.inr (0, 31)), .inr (.inr (0, 95)), .inl p0, .inl p1] σ).bind fun x0 => if x0.1 = 0 then ((C 81 [.inr (.inr (0, 31)), .inr (.inr (1, 95)), .inl p0, .inl p1] x0.2.2).bind fun x1 => if x1.1 = 0 then ((C 81 [.inr (.inr (0, 31)), .inr (.inr (2, 95)), .inl p0, .inl p1] x1.2.2).bind fun x2 => if x2.1 = 0 then ((C 81 [.inr (.inr (0, 31)), .inr (.inr (3, 95)), .inl p0, .inl p1] x2.2.2).bind fun x3 => if x3.1 = 0 then ((C 81 [.inr (.inr (0, 31)), .inr (.inr (4, 95)), .inl p0, .inl p1] x3.2.2).bind fun x4 => if x4.1 = 0 then ((C 81 [.inr (.inr (0, 31)), .inr (.inr (5, 95)), .inl p0, .inl p1] x4.2.2).bind fun x5 => if x5.1 = 0 then ((C 81 [.inr (.inr (0, 31)), .inr (.inr (6, 95)), .inl p0, .inl p1] x5.2.2).bind fun x6 => if x6.1 = 0 then ((C 81 [.inr (.inr (0, 31)), .inr (.inr (7, 95)), .inl p0, .inl p1] x6.2.2).bind fun x7 => if x7.1 = 0 then ((C 81 [.inr (.inr (0, 31)), .inr (.inr (8, 95)), .inl p0, .inl p1] x7.2.2).bind fun x8 => if x8.1 = 0 then ((C 81 [.inr (.inr (0, 31)), .inr (.inr (9, 95)), .inl p0, .inl p1] x8.2.2).bind fun x9 => if x9.1 = 0 then ((C 81 [.inr (.inr (0, 31)), .inr (.inr (10, 95)), .inl p0, .inl p1] x9.2.2).bind fun x10 => if x10.1 = 0 then ((C 81 [.inr (.inr (0, 31)), .inr (.inr (11, 95)), .inl p0, .inl p1] x10.2.2).bind fun x11 => if x11.1 = 0 then ((C 81 [.inr (.inr (0, 31)), .inr (.inr (12, 95)), .inl p0, .inl p1] x11.2.2).bind fun x12 => if x12.1 = 0 then ((C 81 [.inr (.inr (0, 31)), .inr (.inr (13, 95)), .inl p0, .inl p1] x12.2.2).bind fun x13 => if x13.1 = 0 then ((C 81 [.inr (.inr (0, 31)), .inr (.inr (14, 95)), .inl p0, .inl p1] x13.2.2).bind fun x14 => if x14.1 = 0 then ((C 81 [.inr (.inr (0, 31)), .inr (.inr (15, 95)), .inl p0, .inl p1] x14.2.2).bind fun x15 => if x15.1 = 0 then ((C 81 [.inr (.inr (0, 31)), .inr (.inr (16, 95)), .inl p0, .inl p1] x15.2.2).bind fun x16 => if x16.1 = 0 then ((C 81 [.inr (.inr (0, 31)), .inr (.inr (17, 95)), .inl p0, .inl p1] x16.2.2).bind fun x17 => if x17.1 = 0 then (some ((-30), 0, x17.2.2)) else (some ((-5), 0, x17.2.2))) else (some ((-4), 0, x16.2.2))) else (some ((-3), 0, x15.2.2))) else (some ((-2), 0, x14.2.2))) else (some ((-1), 0, x13.2.2))) else (some ((-11), 0, x12.2.2))) else (some ((-10), 0, x11.2.2))) else (some ((-9), 0, x10.2.2))) else (some ((-15), 0, x9.2.2))) else (some ((-18), 0, x8.2.2))) else (some ((-17), 0, x7.2.2))) else (some ((-16), 0, x6.2.2))) else (some ((-25), 0, x5.2.2))) else (some ((-24), 0, x4.2.2))) else (some ((-23), 0, x3.2.2))) else (some ((-22), 0, x2.2.2))) else (some ((-21), 0, x1.2.2))) else (some ((-20), 0, x0.2.2)) : zR)) (zev d) :=
  (zev_m (T := zT_80) rfl rfl).trans ((zrun_eq (zev d) zT_80 [] 151 _ _ _ _).trans (by rfl))

/-- X10_isName (Ljava/lang/String;II)Z -/
theorem ez_81 (d : Nat) (h0 : Nat) (p1 : Int32) (p2 : Int32) (σ : zM) : zev (d + 1) 81 [.inr (.inr (0, 31)), .inr (.inr (h0, 95)), .inl p1, .inl p2] σ = (fun C : zC => ((C 274 [.inr (.inr (h0, 95))] σ).bind fun x0 => if (p2 - p1) = x0.1 then (zrun C zT_81 15 [some (.inr (.inr (0, 31))), some (.inr (.inr (h0, 95))), some (.inl p1), some (.inl p2), some (.inl p1)] [] x0.2.2) else (zgd (zret 3 0) (some (0, 0, x0.2.2))) : zR)) (zev d) :=
  (zev_m (T := zT_81) rfl rfl).trans ((zrun_eq (zev d) zT_81 [15] 34 _ _ _ _).trans (by rfl))
theorem ez_81_15 (C : zC) (h0 : Nat) (a2 : Int32) (a3 : Int32) (a4 : Int32) (σ : zM) : zrun C zT_81 15 [some (.inr (.inr (0, 31))), some (.inr (.inr (h0, 95))), some (.inl a2), some (.inl a3), some (.inl a4)] [] σ = if a4 < a3 then (zgd (zin a4 200) ((C 275 [.inr (.inr (h0, 95)), .inl (a4 - a2)] σ).bind fun x0 => if (σ.1 0 32 (Int32.toNatClampNeg a4)) = x0.1 then (zrun C zT_81 15 [some (.inr (.inr (0, 31))), some (.inr (.inr (h0, 95))), some (.inl a2), some (.inl a3), some (.inl (a4 + 1))] [] x0.2.2) else (zgd (zret 3 0) (some (0, 0, x0.2.2))))) else (zgd (zret 3 1) (some (1, 0, σ))) :=
  (zrun_eq C zT_81 [15] 34 _ _ _ _).trans (by rfl)

/-- X10_isLetter (I)Z -/
theorem ez_82 (d : Nat) (p0 : Int32) (σ : zM) : zev (d + 1) 82 [.inl p0] σ = (fun C : zC => (if p0 < 97 then (zgd (zret 3 0) (some (0, 0, σ))) else (if 122 < p0 then (zgd (zret 3 0) (some (0, 0, σ))) else (zgd (zret 3 1) (some (1, 0, σ)))) : zR)) (zev d) :=
  (zev_m (T := zT_82) rfl rfl).trans ((zrun_eq (zev d) zT_82 [] 15 _ _ _ _).trans (by rfl))

/-- X10_isDigit (I)Z -/
theorem ez_83 (d : Nat) (p0 : Int32) (σ : zM) : zev (d + 1) 83 [.inl p0] σ = (fun C : zC => (if p0 < 48 then (zgd (zret 3 0) (some (0, 0, σ))) else (if 57 < p0 then (zgd (zret 3 0) (some (0, 0, σ))) else (zgd (zret 3 1) (some (1, 0, σ)))) : zR)) (zev d) :=
  (zev_m (T := zT_83) rfl rfl).trans ((zrun_eq (zev d) zT_83 [] 15 _ _ _ _).trans (by rfl))

/-- J6_bitCount_0f7a4 (I)I -/
theorem ez_271 (d : Nat) (p0 : Int32) (σ : zM) : zev (d + 1) 271 [.inl p0] σ = (fun C : zC => (some (((((((((p0 - ((Int32.toUInt32 p0 >>> (Int32.toUInt32 1 &&& Int32.toUInt32 31)).toInt32 &&& 1431655765)) &&& 858993459) + ((Int32.toUInt32 (p0 - ((Int32.toUInt32 p0 >>> (Int32.toUInt32 1 &&& Int32.toUInt32 31)).toInt32 &&& 1431655765)) >>> (Int32.toUInt32 2 &&& Int32.toUInt32 31)).toInt32 &&& 858993459)) + (Int32.toUInt32 (((p0 - ((Int32.toUInt32 p0 >>> (Int32.toUInt32 1 &&& Int32.toUInt32 31)).toInt32 &&& 1431655765)) &&& 858993459) + ((Int32.toUInt32 (p0 - ((Int32.toUInt32 p0 >>> (Int32.toUInt32 1 &&& Int32.toUInt32 31)).toInt32 &&& 1431655765)) >>> (Int32.toUInt32 2 &&& Int32.toUInt32 31)).toInt32 &&& 858993459)) >>> (Int32.toUInt32 4 &&& Int32.toUInt32 31)).toInt32) &&& 252645135) + (Int32.toUInt32 (((((p0 - ((Int32.toUInt32 p0 >>> (Int32.toUInt32 1 &&& Int32.toUInt32 31)).toInt32 &&& 1431655765)) &&& 858993459) + ((Int32.toUInt32 (p0 - ((Int32.toUInt32 p0 >>> (Int32.toUInt32 1 &&& Int32.toUInt32 31)).toInt32 &&& 1431655765)) >>> (Int32.toUInt32 2 &&& Int32.toUInt32 31)).toInt32 &&& 858993459)) + (Int32.toUInt32 (((p0 - ((Int32.toUInt32 p0 >>> (Int32.toUInt32 1 &&& Int32.toUInt32 31)).toInt32 &&& 1431655765)) &&& 858993459) + ((Int32.toUInt32 (p0 - ((Int32.toUInt32 p0 >>> (Int32.toUInt32 1 &&& Int32.toUInt32 31)).toInt32 &&& 1431655765)) >>> (Int32.toUInt32 2 &&& Int32.toUInt32 31)).toInt32 &&& 858993459)) >>> (Int32.toUInt32 4 &&& Int32.toUInt32 31)).toInt32) &&& 252645135) >>> (Int32.toUInt32 8 &&& Int32.toUInt32 31)).toInt32) + (Int32.toUInt32 ((((((p0 - ((Int32.toUInt32 p0 >>> (Int32.toUInt32 1 &&& Int32.toUInt32 31)).toInt32 &&& 1431655765)) &&& 858993459) + ((Int32.toUInt32 (p0 - ((Int32.toUInt32 p0 >>> (Int32.toUInt32 1 &&& Int32.toUInt32 31)).toInt32 &&& 1431655765)) >>> (Int32.toUInt32 2 &&& Int32.toUInt32 31)).toInt32 &&& 858993459)) + (Int32.toUInt32 (((p0 - ((Int32.toUInt32 p0 >>> (Int32.toUInt32 1 &&& Int32.toUInt32 31)).toInt32 &&& 1431655765)) &&& 858993459) + ((Int32.toUInt32 (p0 - ((Int32.toUInt32 p0 >>> (Int32.toUInt32 1 &&& Int32.toUInt32 31)).toInt32 &&& 1431655765)) >>> (Int32.toUInt32 2 &&& Int32.toUInt32 31)).toInt32 &&& 858993459)) >>> (Int32.toUInt32 4 &&& Int32.toUInt32 31)).toInt32) &&& 252645135) + (Int32.toUInt32 (((((p0 - ((Int32.toUInt32 p0 >>> (Int32.toUInt32 1 &&& Int32.toUInt32 31)).toInt32 &&& 1431655765)) &&& 858993459) + ((Int32.toUInt32 (p0 - ((Int32.toUInt32 p0 >>> (Int32.toUInt32 1 &&& Int32.toUInt32 31)).toInt32 &&& 1431655765)) >>> (Int32.toUInt32 2 &&& Int32.toUInt32 31)).toInt32 &&& 858993459)) + (Int32.toUInt32 (((p0 - ((Int32.toUInt32 p0 >>> (Int32.toUInt32 1 &&& Int32.toUInt32 31)).toInt32 &&& 1431655765)) &&& 858993459) + ((Int32.toUInt32 (p0 - ((Int32.toUInt32 p0 >>> (Int32.toUInt32 1 &&& Int32.toUInt32 31)).toInt32 &&& 1431655765)) >>> (Int32.toUInt32 2 &&& Int32.toUInt32 31)).toInt32 &&& 858993459)) >>> (Int32.toUInt32 4 &&& Int32.toUInt32 31)).toInt32) &&& 252645135) >>> (Int32.toUInt32 8 &&& Int32.toUInt32 31)).toInt32) >>> (Int32.toUInt32 16 &&& Int32.toUInt32 31)).toInt32) &&& 63), 0, σ) : zR)) (zev d) :=
  (zev_m (T := zT_271) rfl rfl).trans ((zrun_eq (zev d) zT_271 [] 47 _ _ _ _).trans (by rfl))

/-- J9_max_7cf53 (II)I -/
theorem ez_272 (d : Nat) (p0 : Int32) (p1 : Int32) (σ : zM) : zev (d + 1) 272 [.inl p0, .inl p1] σ = (fun C : zC => (if p0 < p1 then (some (p1, 0, σ)) else (some (p0, 0, σ)) : zR)) (zev d) :=
  (zev_m (T := zT_272) rfl rfl).trans ((zrun_eq (zev d) zT_272 [] 12 _ _ _ _).trans (by rfl))

/-- J9_min_7cf53 (II)I -/
theorem ez_273 (d : Nat) (p0 : Int32) (p1 : Int32) (σ : zM) : zev (d + 1) 273 [.inl p0, .inl p1] σ = (fun C : zC => (if p1 < p0 then (some (p1, 0, σ)) else (some (p0, 0, σ)) : zR)) (zev d) :=
  (zev_m (T := zT_273) rfl rfl).trans ((zrun_eq (zev d) zT_273 [] 12 _ _ _ _).trans (by rfl))

/-- J0_length_8abf5 ()I -/
theorem ez_274 (d : Nat) (g : Nat) (σ : zM) : zev (d + 1) 274 [.inr (.inr (g, 95))] σ = (fun C : zC => ((C 276 [.inr (.inr (g, 95))] σ).bind fun x0 => some (((nI (zSL.getD g []).length) >>> (x0.1 &&& 31)), 0, x0.2.2) : zR)) (zev d) :=
  (zev_m (T := zT_274) rfl rfl).trans ((zrun_eq (zev d) zT_274 [] 12 _ _ _ _).trans (by rfl))

/-- J0_charAt_5068e (I)C -/
theorem ez_275 (d : Nat) (g : Nat) (p0 : Int32) (σ : zM) : zev (d + 1) 275 [.inr (.inr (g, 95)), .inl p0] σ = (fun C : zC => ((C 277 [.inr (.inr (g, 95))] σ).bind fun x0 => if x0.1 = 0 then none else ((C 279 [.inr (.inr (g, 96)), .inl p0] x0.2.2).bind fun x1 => zgd (zret 4 x1.1) (some (x1.1, 0, x1.2.2))) : zR)) (zev d) :=
  (zev_m (T := zT_275) rfl rfl).trans ((zrun_eq (zev d) zT_275 [] 18 _ _ _ _).trans (by rfl))

/-- J0_coder_7d493 ()B -/
theorem ez_276 (d : Nat) (g : Nat) (σ : zM) : zev (d + 1) 276 [.inr (.inr (g, 95))] σ = (fun C : zC => (if 1 = 0 then (zgd (zret 5 1) (some (1, 0, σ))) else (zgd (zret 5 0) (some (0, 0, σ))) : zR)) (zev d) :=
  (zev_m (T := zT_276) rfl rfl).trans ((zrun_eq (zev d) zT_276 [] 12 _ _ _ _).trans (by rfl))

/-- J0_isLatin1_aae02 ()Z -/
theorem ez_277 (d : Nat) (g : Nat) (σ : zM) : zev (d + 1) 277 [.inr (.inr (g, 95))] σ = (fun C : zC => (if 1 = 0 then (zgd (zret 3 0) (some (0, 0, σ))) else (if 0 = 0 then (zgd (zret 3 1) (some (1, 0, σ))) else (zgd (zret 3 0) (some (0, 0, σ)))) : zR)) (zev d) :=
  (zev_m (T := zT_277) rfl rfl).trans ((zrun_eq (zev d) zT_277 [] 14 _ _ _ _).trans (by rfl))

/-- J0_checkIndex_df160 (II)V -/
theorem ez_278 (d : Nat) (p0 : Int32) (p1 : Int32) (σ : zM) : zev (d + 1) 278 [.inl p0, .inl p1] σ = (fun C : zC => ((C 280 [.inl p0, .inl p1, .inr (.inr (0, 99))] σ).bind fun x0 => some (0, 0, x0.2.2) : zR)) (zev d) :=
  (zev_m (T := zT_278) rfl rfl).trans ((zrun_eq (zev d) zT_278 [] 11 _ _ _ _).trans (by rfl))

/-- J1_charAt_3b067 ([BI)C -/
theorem ez_279 (d : Nat) (h0 : Nat) (p1 : Int32) (σ : zM) : zev (d + 1) 279 [.inr (.inr (h0, 96)), .inl p1] σ = (fun C : zC => ((C 278 [.inl p1, .inl (nI (zSL.getD h0 []).length)] σ).bind fun x0 => zgd (zin p1 (zSL.getD h0 []).length) (zgd (zret 4 (((Int32.toUInt32 (((zSL.getD h0 []).getD (Int32.toNatClampNeg p1) 0) &&& 255)) % 65536).toInt32)) (some (((Int32.toUInt32 (((zSL.getD h0 []).getD (Int32.toNatClampNeg p1) 0) &&& 255)) % 65536).toInt32, 0, x0.2.2))) : zR)) (zev d) :=
  (zev_m (T := zT_279) rfl rfl).trans ((zrun_eq (zev d) zT_279 [] 16 _ _ _ _).trans (by rfl))

/-- J3_checkIndex_8e157 (IILjava/util/function/BiFunction;)I -/
theorem ez_280 (d : Nat) (p0 : Int32) (p1 : Int32) (σ : zM) : zev (d + 1) 280 [.inl p0, .inl p1, .inr (.inr (0, 99))] σ = (fun C : zC => (if p0 < 0 then none else (if p0 < p1 then (some (p0, 0, σ)) else none) : zR)) (zev d) :=
  (zev_m (T := zT_280) rfl rfl).trans ((zrun_eq (zev d) zT_280 [] 17 _ _ _ _).trans (by rfl))
end
section
set_option maxRecDepth 20000
set_option linter.unusedVariables false
/-- X11_bough (IIII)I -/
theorem ez_84 (d : Nat) (p0 : Int32) (p1 : Int32) (p2 : Int32) (p3 : Int32) (σ : zM) : zev (d + 1) 84 [.inr (.inr (0, 30)), .inl p0, .inl p1, .inl p2, .inl p3] σ = (fun C : zC => (if p1 = (-1) then (zrun C zT_84 10 [some (.inr (.inr (0, 30))), some (.inl p0), some (.inl p1), some (.inl p2), some (.inl p3), none] [.inl 1] σ) else (zrun C zT_84 10 [some (.inr (.inr (0, 30))), some (.inl p0), some (.inl p1), some (.inl p2), some (.inl p3), none] [.inl 0] σ) : zR)) (zev d) :=
  (zev_m (T := zT_84) rfl rfl).trans ((zrun_eq (zev d) zT_84 [10, 40] 68 _ _ _ _).trans (by rfl))
theorem ez_84_10 (C : zC) (a1 : Int32) (a2 : Int32) (a3 : Int32) (a4 : Int32) (d5 : Option zV) (s0 : Int32) (σ : zM) : zrun C zT_84 10 [some (.inr (.inr (0, 30))), some (.inl a1), some (.inl a2), some (.inl a3), some (.inl a4), d5] [.inl s0] σ = (C 142 [.inl a1] σ).bind fun x0 => if x0.1 = 0 then (some ((-1), 0, x0.2.2)) else (if s0 = 0 then ((C 13 [.inr (.inr (0, 1)), .inl a2] x0.2.2).bind fun x1 => if x1.1 = 0 then (some ((-1), 0, x1.2.2)) else (zrun C zT_84 40 [some (.inr (.inr (0, 30))), some (.inl a1), some (.inl a2), some (.inl a3), some (.inl a4), some (.inl s0)] [] x1.2.2)) else (zrun C zT_84 40 [some (.inr (.inr (0, 30))), some (.inl a1), some (.inl a2), some (.inl a3), some (.inl a4), some (.inl s0)] [] x0.2.2)) :=
  (zrun_eq C zT_84 [10, 40] 68 _ _ _ _).trans (by rfl)
theorem ez_84_40 (C : zC) (a1 : Int32) (a2 : Int32) (a3 : Int32) (a4 : Int32) (a5 : Int32) (σ : zM) : zrun C zT_84 40 [some (.inr (.inr (0, 30))), some (.inl a1), some (.inl a2), some (.inl a3), some (.inl a4), some (.inl a5)] [] σ = (C 141 [.inl a3, .inl 1, .inl 9] σ).bind fun x0 => if x0.1 = 0 then (some ((-1), 0, x0.2.2)) else ((C 141 [.inl a4, .inl 1, .inl 999] x0.2.2).bind fun x1 => if x1.1 = 0 then (some ((-1), 0, x1.2.2)) else (if (x1.2.2.1 0 1 0) < 9 then (if a5 = 0 then ((C 14 [.inr (.inr (0, 1)), .inl a2] x1.2.2).bind fun x2 => if x2.1 = 0 then (some ((-4), 0, x2.2.2)) else (if a5 = 0 then ((C 12 [.inr (.inr (0, 1)), .inl a1, .inl a2, .inl a3, .inl a4] x2.2.2).bind fun x3 => some (x3.1, 0, x3.2.2)) else ((C 12 [.inr (.inr (0, 1)), .inl a1, .inl (-9), .inl a3, .inl a4] x2.2.2).bind fun x4 => some (x4.1, 0, x4.2.2)))) else (if a5 = 0 then ((C 12 [.inr (.inr (0, 1)), .inl a1, .inl a2, .inl a3, .inl a4] x1.2.2).bind fun x5 => some (x5.1, 0, x5.2.2)) else ((C 12 [.inr (.inr (0, 1)), .inl a1, .inl (-9), .inl a3, .inl a4] x1.2.2).bind fun x6 => some (x6.1, 0, x6.2.2)))) else (some ((-2), 0, x1.2.2)))) :=
  (zrun_eq C zT_84 [10, 40] 68 _ _ _ _).trans (by rfl)

/-- X11_boughOf (II)I -/
theorem ez_85 (d : Nat) (p0 : Int32) (p1 : Int32) (σ : zM) : zev (d + 1) 85 [.inr (.inr (0, 30)), .inl p0, .inl p1] σ = (fun C : zC => ((C 13 [.inr (.inr (0, 1)), .inl p0] σ).bind fun x0 => if x0.1 = 0 then (some ((-1), 0, x0.2.2)) else (if p1 = 0 then (zgd (zin p0 9) (some ((x0.2.2.1 0 2 (Int32.toNatClampNeg p0)), 0, x0.2.2))) else if p1 = 1 then (zgd (zin p0 9) (some ((x0.2.2.1 0 3 (Int32.toNatClampNeg p0)), 0, x0.2.2))) else if p1 = 2 then (zgd (zin p0 9) (some ((x0.2.2.1 0 4 (Int32.toNatClampNeg p0)), 0, x0.2.2))) else if p1 = 3 then (zgd (zin p0 9) (some ((x0.2.2.1 0 5 (Int32.toNatClampNeg p0)), 0, x0.2.2))) else if p1 = 4 then ((C 16 [.inr (.inr (0, 1)), .inl p0] x0.2.2).bind fun x1 => some (x1.1, 0, x1.2.2)) else if p1 = 5 then ((C 26 [.inr (.inr (0, 0)), .inl p0] x0.2.2).bind fun x2 => some (x2.1, 0, x2.2.2)) else if p1 = 6 then ((C 30 [.inr (.inr (0, 0)), .inl p0] x0.2.2).bind fun x3 => some (x3.1, 0, x3.2.2)) else (some ((-1), 0, x0.2.2))) : zR)) (zev d) :=
  (zev_m (T := zT_85) rfl rfl).trans ((zrun_eq (zev d) zT_85 [] 61 _ _ _ _).trans (by rfl))

/-- X11_change (III)I -/
theorem ez_86 (d : Nat) (p0 : Int32) (p1 : Int32) (p2 : Int32) (σ : zM) : zev (d + 1) 86 [.inr (.inr (0, 30)), .inl p0, .inl p1, .inl p2] σ = (fun C : zC => ((C 13 [.inr (.inr (0, 1)), .inl p0] σ).bind fun x0 => if x0.1 = 0 then (some ((-1), 0, x0.2.2)) else (if p1 = 2 then ((C 141 [.inl p2, .inl 1, .inl 9] x0.2.2).bind fun x1 => if x1.1 = 0 then (zrun C zT_86 47 [some (.inr (.inr (0, 30))), some (.inl p0), some (.inl p1), some (.inl p2)] [] x1.2.2) else ((C 147 [.inr (.inr (0, 4)), .inl p0, .inl p2] x1.2.2).bind fun x2 => some (x2.1, 0, x2.2.2))) else (zrun C zT_86 47 [some (.inr (.inr (0, 30))), some (.inl p0), some (.inl p1), some (.inl p2)] [] x0.2.2)) : zR)) (zev d) :=
  (zev_m (T := zT_86) rfl rfl).trans ((zrun_eq (zev d) zT_86 [47] 47 _ _ _ _).trans (by rfl))
theorem ez_86_47 (C : zC) (a1 : Int32) (a2 : Int32) (a3 : Int32) (σ : zM) : zrun C zT_86 47 [some (.inr (.inr (0, 30))), some (.inl a1), some (.inl a2), some (.inl a3)] [] σ = if a2 = 3 then ((C 141 [.inl a3, .inl 1, .inl 999] σ).bind fun x0 => if x0.1 = 0 then (some ((-1), 0, x0.2.2)) else ((C 147 [.inr (.inr (0, 5)), .inl a1, .inl a3] x0.2.2).bind fun x1 => some (x1.1, 0, x1.2.2))) else (some ((-1), 0, σ)) :=
  (zrun_eq C zT_86 [47] 47 _ _ _ _).trans (by rfl)

/-- X11_graft (II)I -/
theorem ez_87 (d : Nat) (p0 : Int32) (p1 : Int32) (σ : zM) : zev (d + 1) 87 [.inr (.inr (0, 30)), .inl p0, .inl p1] σ = (fun C : zC => ((C 13 [.inr (.inr (0, 1)), .inl p0] σ).bind fun x0 => if x0.1 = 0 then (some ((-1), 0, x0.2.2)) else ((C 142 [.inl p1] x0.2.2).bind fun x1 => if x1.1 = 0 then (some ((-1), 0, x1.2.2)) else ((C 147 [.inr (.inr (0, 2)), .inl p0, .inl p1] x1.2.2).bind fun x2 => some (x2.1, 0, x2.2.2))) : zR)) (zev d) :=
  (zev_m (T := zT_87) rfl rfl).trans ((zrun_eq (zev d) zT_87 [] 24 _ _ _ _).trans (by rfl))

/-- X11_weather (II)I -/
theorem ez_88 (d : Nat) (p0 : Int32) (p1 : Int32) (σ : zM) : zev (d + 1) 88 [.inr (.inr (0, 30)), .inl p0, .inl p1] σ = (fun C : zC => ((C 141 [.inl p0, .inl 0, .inl 1] σ).bind fun x0 => if x0.1 = 0 then (some ((-1), 0, x0.2.2)) else ((C 141 [.inl p1, .inl 0, .inl 9] x0.2.2).bind fun x1 => if x1.1 = 0 then (some ((-1), 0, x1.2.2)) else (if p0 = 0 then (zrun C zT_88 48 [some (.inr (.inr (0, 30))), some (.inl p0), some (.inl p1), none] [.inl (x1.2.2.1 0 1 7)] x1.2.2) else (zrun C zT_88 48 [some (.inr (.inr (0, 30))), some (.inl p0), some (.inl p1), none] [.inl (x1.2.2.1 0 1 8)] x1.2.2))) : zR)) (zev d) :=
  (zev_m (T := zT_88) rfl rfl).trans ((zrun_eq (zev d) zT_88 [48] 44 _ _ _ _).trans (by rfl))
theorem ez_88_48 (C : zC) (a1 : Int32) (a2 : Int32) (d3 : Option zV) (s0 : Int32) (σ : zM) : zrun C zT_88 48 [some (.inr (.inr (0, 30))), some (.inl a1), some (.inl a2), d3] [.inl s0] σ = if a1 = 0 then (some (s0, 0, zwI σ 0 1 7 a2)) else (some (s0, 0, zwI σ 0 1 8 a2)) :=
  (zrun_eq C zT_88 [48] 44 _ _ _ _).trans (by rfl)

/-- X11_feed (JI)I -/
theorem ez_89 (d : Nat) (p0 : Int64) (p1 : Int32) (σ : zM) : zev (d + 1) 89 [.inr (.inr (0, 30)), .inr (.inl p0), .inl p1] σ = (fun C : zC => ((C 141 [.inl p1, .inl 1, .inl 8] σ).bind fun x0 => if x0.1 = 0 then (some ((-1), 0, x0.2.2)) else (if 200 < ((x0.2.2.1 0 31 0) + p1) then (some ((-2), 0, x0.2.2)) else ((C 75 [.inr (.inr (0, 31)), .inr (.inl p0), .inl p1] x0.2.2).bind fun x1 => some ((x1.2.2.1 0 31 0), 0, x1.2.2))) : zR)) (zev d) :=
  (zev_m (T := zT_89) rfl rfl).trans ((zrun_eq (zev d) zT_89 [] 30 _ _ _ _).trans (by rfl))

/-- X11_rules ()I -/
theorem ez_90 (d : Nat)  (σ : zM) : zev (d + 1) 90 [.inr (.inr (0, 30))] σ = (fun C : zC => ((C 48 [.inr (.inr (0, 33)), .inr (.inr (0, 31))] σ).bind fun x0 => if x0.1 < 0 then ((C 63 [.inr (.inr (0, 7)), .inr (.inr (4, 7))] (zwI x0.2.2 0 31 0 0)).bind fun x1 => some ((x1.2.2.1 0 7 0), 0, x1.2.2)) else (some (((-100) - x0.1), 0, zwI x0.2.2 0 31 0 0)) : zR)) (zev d) :=
  (zev_m (T := zT_90) rfl rfl).trans ((zrun_eq (zev d) zT_90 [] 35 _ _ _ _).trans (by rfl))

/-- X11_person (II)I -/
theorem ez_91 (d : Nat) (p0 : Int32) (p1 : Int32) (σ : zM) : zev (d + 1) 91 [.inr (.inr (0, 30)), .inl p0, .inl p1] σ = (fun C : zC => ((C 141 [.inl p0, .inl 1, .inl 200] σ).bind fun x0 => if x0.1 = 0 then (some ((-1), 0, x0.2.2)) else ((C 143 [.inl p1] x0.2.2).bind fun x1 => if x1.1 = 0 then (some ((-1), 0, x1.2.2)) else (if (x1.2.2.1 0 15 0) < 8 then ((C 36 [.inr (.inr (0, 15)), .inl p0, .inl p1] x1.2.2).bind fun x2 => some (x2.1, 0, x2.2.2)) else (some ((-2), 0, x1.2.2)))) : zR)) (zev d) :=
  (zev_m (T := zT_91) rfl rfl).trans ((zrun_eq (zev d) zT_91 [] 30 _ _ _ _).trans (by rfl))

/-- X11_personOf (II)I -/
theorem ez_92 (d : Nat) (p0 : Int32) (p1 : Int32) (σ : zM) : zev (d + 1) 92 [.inr (.inr (0, 30)), .inl p0, .inl p1] σ = (fun C : zC => ((C 37 [.inr (.inr (0, 15)), .inl p0] σ).bind fun x0 => if x0.1 = 0 then (some ((-1), 0, x0.2.2)) else (if p1 = 0 then (zgd (zin p0 8) (some ((x0.2.2.1 0 16 (Int32.toNatClampNeg p0)), 0, x0.2.2))) else if p1 = 1 then (zgd (zin p0 8) (some ((x0.2.2.1 0 17 (Int32.toNatClampNeg p0)), 0, x0.2.2))) else if p1 = 2 then (zgd (zin p0 8) (some ((x0.2.2.1 0 18 (Int32.toNatClampNeg p0)), 0, x0.2.2))) else (some ((-1), 0, x0.2.2))) : zR)) (zev d) :=
  (zev_m (T := zT_92) rfl rfl).trans ((zrun_eq (zev d) zT_92 [] 38 _ _ _ _).trans (by rfl))

/-- X11_sit (II)I -/
theorem ez_93 (d : Nat) (p0 : Int32) (p1 : Int32) (σ : zM) : zev (d + 1) 93 [.inr (.inr (0, 30)), .inl p0, .inl p1] σ = (fun C : zC => ((C 37 [.inr (.inr (0, 15)), .inl p0] σ).bind fun x0 => if x0.1 = 0 then (some ((-1), 0, x0.2.2)) else ((C 13 [.inr (.inr (0, 1)), .inl p1] x0.2.2).bind fun x1 => if x1.1 = 0 then (some ((-1), 0, x1.2.2)) else ((C 14 [.inr (.inr (0, 1)), .inl p1] x1.2.2).bind fun x2 => if x2.1 = 0 then (some ((-4), 0, x2.2.2)) else ((C 147 [.inr (.inr (0, 18)), .inl p0, .inl p1] x2.2.2).bind fun x3 => some (x3.1, 0, x3.2.2)))) : zR)) (zev d) :=
  (zev_m (T := zT_93) rfl rfl).trans ((zrun_eq (zev d) zT_93 [] 35 _ _ _ _).trans (by rfl))

/-- X11_down (I)I -/
theorem ez_94 (d : Nat) (p0 : Int32) (σ : zM) : zev (d + 1) 94 [.inr (.inr (0, 30)), .inl p0] σ = (fun C : zC => ((C 37 [.inr (.inr (0, 15)), .inl p0] σ).bind fun x0 => if x0.1 = 0 then (some ((-1), 0, x0.2.2)) else ((C 147 [.inr (.inr (0, 18)), .inl p0, .inl (-9)] x0.2.2).bind fun x1 => some (x1.1, 0, x1.2.2)) : zR)) (zev d) :=
  (zev_m (T := zT_94) rfl rfl).trans ((zrun_eq (zev d) zT_94 [] 21 _ _ _ _).trans (by rfl))

/-- X11_cracks ()I -/
theorem ez_95 (d : Nat)  (σ : zM) : zev (d + 1) 95 [.inr (.inr (0, 30))] σ = (fun C : zC => ((C 27 [.inr (.inr (0, 0))] σ).bind fun x0 => (C 29 [.inr (.inr (0, 0))] x0.2.2).bind fun x1 => some (x1.1, 0, x1.2.2) : zR)) (zev d) :=
  (zev_m (T := zT_95) rfl rfl).trans ((zrun_eq (zev d) zT_95 [] 12 _ _ _ _).trans (by rfl))

/-- X11_worst ()I -/
theorem ez_96 (d : Nat)  (σ : zM) : zev (d + 1) 96 [.inr (.inr (0, 30))] σ = (fun C : zC => ((C 27 [.inr (.inr (0, 0))] σ).bind fun x0 => (C 31 [.inr (.inr (0, 0))] x0.2.2).bind fun x1 => if x1.1 = (-9) then (some ((-3), 0, x1.2.2)) else (some (x1.1, 0, x1.2.2)) : zR)) (zev d) :=
  (zev_m (T := zT_96) rfl rfl).trans ((zrun_eq (zev d) zT_96 [] 19 _ _ _ _).trans (by rfl))

/-- X11_fall ()I -/
theorem ez_97 (d : Nat)  (σ : zM) : zev (d + 1) 97 [.inr (.inr (0, 30))] σ = (fun C : zC => ((C 33 [.inr (.inr (0, 0))] σ).bind fun x0 => some (x0.1, 0, x0.2.2) : zR)) (zev d) :=
  (zev_m (T := zT_97) rfl rfl).trans ((zrun_eq (zev d) zT_97 [] 9 _ _ _ _).trans (by rfl))

/-- X11_would ()I -/
theorem ez_98 (d : Nat)  (σ : zM) : zev (d + 1) 98 [.inr (.inr (0, 30))] σ = (fun C : zC => ((C 25 [.inr (.inr (1, 0)), .inr (.inr (0, 0))] σ).bind fun x0 => (C 33 [.inr (.inr (1, 0))] x0.2.2).bind fun x1 => some (x1.1, 0, x1.2.2) : zR)) (zev d) :=
  (zev_m (T := zT_98) rfl rfl).trans ((zrun_eq (zev d) zT_98 [] 14 _ _ _ _).trans (by rfl))

/-- X11_standing (I)I -/
theorem ez_99 (d : Nat) (p0 : Int32) (σ : zM) : zev (d + 1) 99 [.inr (.inr (0, 30)), .inl p0] σ = (fun C : zC => ((C 143 [.inl p0] σ).bind fun x0 => if x0.1 = 0 then (some ((-1), 0, x0.2.2)) else ((C 25 [.inr (.inr (1, 0)), .inr (.inr (0, 0))] x0.2.2).bind fun x1 => (C 33 [.inr (.inr (1, 0))] x1.2.2).bind fun x2 => (C 38 [.inr (.inr (1, 15)), .inl p0] x2.2.2).bind fun x3 => some (x3.1, 0, x3.2.2)) : zR)) (zev d) :=
  (zev_m (T := zT_99) rfl rfl).trans ((zrun_eq (zev d) zT_99 [] 25 _ _ _ _).trans (by rfl))

/-- X11_verdict ()I -/
theorem ez_100 (d : Nat)  (σ : zM) : zev (d + 1) 100 [.inr (.inr (0, 30))] σ = (fun C : zC => ((C 25 [.inr (.inr (1, 0)), .inr (.inr (0, 0))] σ).bind fun x0 => (C 33 [.inr (.inr (1, 0))] x0.2.2).bind fun x1 => (C 38 [.inr (.inr (1, 15)), .inl 0] x1.2.2).bind fun x2 => (C 38 [.inr (.inr (1, 15)), .inl 1] x2.2.2).bind fun x3 => if (x2.1 - x3.1) = 0 then (some (2, 0, x3.2.2)) else (if 0 < (x2.1 - x3.1) then (some (0, 0, x3.2.2)) else (some (1, 0, x3.2.2))) : zR)) (zev d) :=
  (zev_m (T := zT_100) rfl rfl).trans ((zrun_eq (zev d) zT_100 [] 36 _ _ _ _).trans (by rfl))

/-- X11_room (I)I -/
theorem ez_101 (d : Nat) (p0 : Int32) (σ : zM) : zev (d + 1) 101 [.inr (.inr (0, 30)), .inl p0] σ = (fun C : zC => ((C 13 [.inr (.inr (0, 1)), .inl p0] σ).bind fun x0 => if x0.1 = 0 then (some ((-1), 0, x0.2.2)) else ((C 14 [.inr (.inr (0, 1)), .inl p0] x0.2.2).bind fun x1 => if x1.1 = 0 then (some ((-4), 0, x1.2.2)) else ((C 27 [.inr (.inr (0, 0))] x1.2.2).bind fun x2 => (C 32 [.inr (.inr (0, 0)), .inl p0] x2.2.2).bind fun x3 => some (x3.1, 0, x3.2.2))) : zR)) (zev d) :=
  (zev_m (T := zT_101) rfl rfl).trans ((zrun_eq (zev d) zT_101 [] 29 _ _ _ _).trans (by rfl))

/-- X11_best (I)I -/
theorem ez_102 (d : Nat) (p0 : Int32) (σ : zM) : zev (d + 1) 102 [.inr (.inr (0, 30)), .inl p0] σ = (fun C : zC => ((C 37 [.inr (.inr (0, 15)), .inl p0] σ).bind fun x0 => if x0.1 = 0 then (some ((-1), 0, x0.2.2)) else ((C 107 [.inr (.inr (0, 30)), .inl p0] x0.2.2).bind fun x1 => zrun C zT_102 29 [some (.inr (.inr (0, 30))), some (.inl p0), some (.inl (-1)), some (.inl (-3)), some (.inl 0)] [] x1.2.2) : zR)) (zev d) :=
  (zev_m (T := zT_102) rfl rfl).trans ((zrun_eq (zev d) zT_102 [29] 51 _ _ _ _).trans (by rfl))
theorem ez_102_29 (C : zC) (d1 : Option zV) (a2 : Int32) (a3 : Int32) (a4 : Int32) (σ : zM) : zrun C zT_102 29 [some (.inr (.inr (0, 30))), d1, some (.inl a2), some (.inl a3), some (.inl a4)] [] σ = if a4 < (σ.1 1 1 0) then ((C 14 [.inr (.inr (1, 1)), .inl a4] σ).bind fun x0 => if x0.1 = 0 then (zrun C zT_102 29 [some (.inr (.inr (0, 30))), none, some (.inl a2), some (.inl a3), some (.inl (a4 + 1))] [] x0.2.2) else ((C 32 [.inr (.inr (1, 0)), .inl a4] x0.2.2).bind fun x1 => if a2 < x1.1 then ((C 32 [.inr (.inr (1, 0)), .inl a4] x1.2.2).bind fun x2 => zrun C zT_102 29 [some (.inr (.inr (0, 30))), none, some (.inl x2.1), some (.inl a4), some (.inl (a4 + 1))] [] x2.2.2) else (zrun C zT_102 29 [some (.inr (.inr (0, 30))), none, some (.inl a2), some (.inl a3), some (.inl (a4 + 1))] [] x1.2.2))) else (some (a3, 0, σ)) :=
  (zrun_eq C zT_102 [29] 51 _ _ _ _).trans (by rfl)

/-- X11_safe (I)I -/
theorem ez_103 (d : Nat) (p0 : Int32) (σ : zM) : zev (d + 1) 103 [.inr (.inr (0, 30)), .inl p0] σ = (fun C : zC => ((C 37 [.inr (.inr (0, 15)), .inl p0] σ).bind fun x0 => if x0.1 = 0 then (some ((-1), 0, x0.2.2)) else ((C 107 [.inr (.inr (0, 30)), .inl p0] x0.2.2).bind fun x1 => zgd (zin p0 8) (zrun C zT_103 39 [some (.inr (.inr (0, 30))), some (.inl p0), some (.inl (x1.2.2.1 0 16 (Int32.toNatClampNeg p0))), some (.inl 0), some (.inl 0)] [] x1.2.2)) : zR)) (zev d) :=
  (zev_m (T := zT_103) rfl rfl).trans ((zrun_eq (zev d) zT_103 [39] 73 _ _ _ _).trans (by rfl))
theorem ez_103_39 (C : zC) (a1 : Int32) (a2 : Int32) (a3 : Int32) (a4 : Int32) (σ : zM) : zrun C zT_103 39 [some (.inr (.inr (0, 30))), some (.inl a1), some (.inl a2), some (.inl a3), some (.inl a4)] [] σ = if a4 < (σ.1 1 1 0) then (zgd (zin a1 8) (if a4 = (σ.1 0 18 (Int32.toNatClampNeg a1)) then (zrun C zT_103 39 [some (.inr (.inr (0, 30))), some (.inl a1), some (.inl a2), some (.inl a3), some (.inl (a4 + 1))] [] σ) else ((C 14 [.inr (.inr (1, 1)), .inl a4] σ).bind fun x0 => if x0.1 = 0 then (zrun C zT_103 39 [some (.inr (.inr (0, 30))), some (.inl a1), some (.inl a2), some (.inl a3), some (.inl (a4 + 1))] [] x0.2.2) else ((C 28 [.inr (.inr (1, 0)), .inl a4, .inl a2] x0.2.2).bind fun x1 => (C 29 [.inr (.inr (1, 0))] x1.2.2).bind fun x2 => if x2.1 = 0 then ((C 28 [.inr (.inr (1, 0)), .inl a4, .inl (-a2)] x2.2.2).bind fun x3 => zrun C zT_103 39 [some (.inr (.inr (0, 30))), some (.inl a1), some (.inl a2), some (.inl (a3 ||| (1 <<< (a4 &&& 31)))), some (.inl (a4 + 1))] [] x3.2.2) else ((C 28 [.inr (.inr (1, 0)), .inl a4, .inl (-a2)] x2.2.2).bind fun x4 => zrun C zT_103 39 [some (.inr (.inr (0, 30))), some (.inl a1), some (.inl a2), some (.inl a3), some (.inl (a4 + 1))] [] x4.2.2))))) else (some (a3, 0, σ)) :=
  (zrun_eq C zT_103 [39] 73 _ _ _ _).trans (by rfl)

/-- X11_prop ()I -/
theorem ez_104 (d : Nat)  (σ : zM) : zev (d + 1) 104 [.inr (.inr (0, 30))] σ = (fun C : zC => ((C 25 [.inr (.inr (1, 0)), .inr (.inr (0, 0))] σ).bind fun x0 => (C 33 [.inr (.inr (1, 0))] x0.2.2).bind fun x1 => (C 38 [.inr (.inr (1, 15)), .inl 0] x1.2.2).bind fun x2 => (C 38 [.inr (.inr (1, 15)), .inl 1] x2.2.2).bind fun x3 => zrun C zT_104 48 [some (.inr (.inr (0, 30))), some (.inl (x2.1 + x3.1)), some (.inl (-3)), some (.inl 0), none] [] x3.2.2 : zR)) (zev d) :=
  (zev_m (T := zT_104) rfl rfl).trans ((zrun_eq (zev d) zT_104 [48] 51 _ _ _ _).trans (by rfl))
theorem ez_104_48 (C : zC) (a1 : Int32) (a2 : Int32) (a3 : Int32) (d4 : Option zV) (σ : zM) : zrun C zT_104 48 [some (.inr (.inr (0, 30))), some (.inl a1), some (.inl a2), some (.inl a3), d4] [] σ = if a3 < (σ.1 0 1 0) then ((C 108 [.inr (.inr (0, 30)), .inl a3] σ).bind fun x0 => if a1 < x0.1 then (zrun C zT_104 48 [some (.inr (.inr (0, 30))), some (.inl x0.1), some (.inl a3), some (.inl (a3 + 1)), some (.inl x0.1)] [] x0.2.2) else (zrun C zT_104 48 [some (.inr (.inr (0, 30))), some (.inl a1), some (.inl a2), some (.inl (a3 + 1)), some (.inl x0.1)] [] x0.2.2)) else (some (a2, 0, σ)) :=
  (zrun_eq C zT_104 [48] 51 _ _ _ _).trans (by rfl)

/-- X11_windFor ()I -/
theorem ez_105 (d : Nat)  (σ : zM) : zev (d + 1) 105 [.inr (.inr (0, 30))] σ = (fun C : zC => ((C 109 [.inr (.inr (0, 30))] σ).bind fun x0 => zrun C zT_105 7 [some (.inr (.inr (0, 30))), some (.inl x0.1), some (.inl 0)] [] x0.2.2 : zR)) (zev d) :=
  (zev_m (T := zT_105) rfl rfl).trans ((zrun_eq (zev d) zT_105 [7] 23 _ _ _ _).trans (by rfl))
theorem ez_105_7 (C : zC) (d0 : Option zV) (a1 : Int32) (a2 : Int32) (σ : zM) : zrun C zT_105 7 [d0, some (.inl a1), some (.inl a2)] [] σ = if 9 < a2 then (some ((-3), 0, σ)) else ((C 145 [.inl a1, .inl a2] σ).bind fun x0 => if x0.1 = 0 then (zrun C zT_105 7 [none, some (.inl a1), some (.inl (a2 + 1))] [] x0.2.2) else (some (a2, 0, x0.2.2))) :=
  (zrun_eq C zT_105 [7] 23 _ _ _ _).trans (by rfl)

/-- X11_sapFor ()I -/
theorem ez_106 (d : Nat)  (σ : zM) : zev (d + 1) 106 [.inr (.inr (0, 30))] σ = (fun C : zC => ((C 25 [.inr (.inr (1, 0)), .inr (.inr (0, 0))] σ).bind fun x0 => zrun C zT_106 13 [some (.inr (.inr (0, 30))), some (.inl 0)] [] x0.2.2 : zR)) (zev d) :=
  (zev_m (T := zT_106) rfl rfl).trans ((zrun_eq (zev d) zT_106 [13] 33 _ _ _ _).trans (by rfl))
theorem ez_106_13 (C : zC) (a1 : Int32) (σ : zM) : zrun C zT_106 13 [some (.inr (.inr (0, 30))), some (.inl a1)] [] σ = if 9 < a1 then (some ((-3), 0, σ)) else ((C 27 [.inr (.inr (1, 0))] (zwI σ 1 1 7 a1)).bind fun x0 => (C 29 [.inr (.inr (1, 0))] x0.2.2).bind fun x1 => if x1.1 = 0 then (some (a1, 0, x1.2.2)) else (zrun C zT_106 13 [some (.inr (.inr (0, 30))), some (.inl (a1 + 1))] [] x1.2.2)) :=
  (zrun_eq C zT_106 [13] 33 _ _ _ _).trans (by rfl)

/-- X11_tryWithout (I)V -/
theorem ez_107 (d : Nat) (p0 : Int32) (σ : zM) : zev (d + 1) 107 [.inr (.inr (0, 30)), .inl p0] σ = (fun C : zC => ((C 25 [.inr (.inr (1, 0)), .inr (.inr (0, 0))] σ).bind fun x0 => zgd (zin p0 8) ((C 27 [.inr (.inr (1, 0))] (zwI x0.2.2 1 18 (Int32.toNatClampNeg p0) (-9))).bind fun x1 => some (0, 0, x1.2.2)) : zR)) (zev d) :=
  (zev_m (T := zT_107) rfl rfl).trans ((zrun_eq (zev d) zT_107 [] 21 _ _ _ _).trans (by rfl))

/-- X11_seatedIfPropped (I)I -/
theorem ez_108 (d : Nat) (p0 : Int32) (σ : zM) : zev (d + 1) 108 [.inr (.inr (0, 30)), .inl p0] σ = (fun C : zC => ((C 25 [.inr (.inr (1, 0)), .inr (.inr (0, 0))] σ).bind fun x0 => zgd (zin p0 9) ((C 33 [.inr (.inr (1, 0))] (zwI x0.2.2 1 2 (Int32.toNatClampNeg p0) 4)).bind fun x1 => (C 38 [.inr (.inr (1, 15)), .inl 0] x1.2.2).bind fun x2 => (C 38 [.inr (.inr (1, 15)), .inl 1] x2.2.2).bind fun x3 => some ((x2.1 + x3.1), 0, x3.2.2)) : zR)) (zev d) :=
  (zev_m (T := zT_108) rfl rfl).trans ((zrun_eq (zev d) zT_108 [] 33 _ _ _ _).trans (by rfl))

/-- X11_crackingWinds ()I -/
theorem ez_109 (d : Nat)  (σ : zM) : zev (d + 1) 109 [.inr (.inr (0, 30))] σ = (fun C : zC => ((C 25 [.inr (.inr (1, 0)), .inr (.inr (0, 0))] σ).bind fun x0 => zrun C zT_109 15 [some (.inr (.inr (0, 30))), some (.inl 0), some (.inl 0)] [] x0.2.2 : zR)) (zev d) :=
  (zev_m (T := zT_109) rfl rfl).trans ((zrun_eq (zev d) zT_109 [15] 39 _ _ _ _).trans (by rfl))
theorem ez_109_15 (C : zC) (a1 : Int32) (a2 : Int32) (σ : zM) : zrun C zT_109 15 [some (.inr (.inr (0, 30))), some (.inl a1), some (.inl a2)] [] σ = if 9 < a2 then (some (a1, 0, σ)) else ((C 27 [.inr (.inr (1, 0))] (zwI σ 1 1 8 a2)).bind fun x0 => (C 29 [.inr (.inr (1, 0))] x0.2.2).bind fun x1 => if x1.1 = 0 then (zrun C zT_109 15 [some (.inr (.inr (0, 30))), some (.inl a1), some (.inl (a2 + 1))] [] x1.2.2) else (zrun C zT_109 15 [some (.inr (.inr (0, 30))), some (.inl (a1 ||| (1 <<< (a2 &&& 31)))), some (.inl (a2 + 1))] [] x1.2.2)) :=
  (zrun_eq C zT_109 [15] 39 _ _ _ _).trans (by rfl)

/-- X11_seat (II)I -/
theorem ez_110 (d : Nat) (p0 : Int32) (p1 : Int32) (σ : zM) : zev (d + 1) 110 [.inr (.inr (0, 30)), .inl p0, .inl p1] σ = (fun C : zC => ((C 114 [.inr (.inr (0, 30)), .inl p0] σ).bind fun x0 => if x0.1 = 0 then (some ((-1), 0, x0.2.2)) else ((C 141 [.inl p1, .inl 0, .inl 3] x0.2.2).bind fun x1 => if x1.1 = 0 then (some ((-1), 0, x1.2.2)) else ((C 69 [.inr (.inr (0, 35)), .inr (.inr (0, 0)), .inl p0] x1.2.2).bind fun x2 => if x2.1 = 0 then (some ((-3), 0, x2.2.2)) else (if p1 < (x2.2.2.1 0 35 0) then (zgd (zin p1 4) (some ((x2.2.2.1 0 37 (Int32.toNatClampNeg p1)), 0, x2.2.2))) else (some ((-3), 0, x2.2.2))))) : zR)) (zev d) :=
  (zev_m (T := zT_110) rfl rfl).trans ((zrun_eq (zev d) zT_110 [] 36 _ _ _ _).trans (by rfl))

/-- X11_seatAll (I)I -/
theorem ez_111 (d : Nat) (p0 : Int32) (σ : zM) : zev (d + 1) 111 [.inr (.inr (0, 30)), .inl p0] σ = (fun C : zC => ((C 114 [.inr (.inr (0, 30)), .inl p0] σ).bind fun x0 => if x0.1 = 0 then (some ((-1), 0, x0.2.2)) else ((C 69 [.inr (.inr (0, 35)), .inr (.inr (0, 0)), .inl p0] x0.2.2).bind fun x1 => if x1.1 = 0 then (some ((-3), 0, x1.2.2)) else (zrun C zT_111 30 [some (.inr (.inr (0, 30))), some (.inl p0), some (.inl 0)] [] x1.2.2)) : zR)) (zev d) :=
  (zev_m (T := zT_111) rfl rfl).trans ((zrun_eq (zev d) zT_111 [30] 48 _ _ _ _).trans (by rfl))
theorem ez_111_30 (C : zC) (d1 : Option zV) (a2 : Int32) (σ : zM) : zrun C zT_111 30 [some (.inr (.inr (0, 30))), d1, some (.inl a2)] [] σ = if a2 < (σ.1 0 35 0) then (zgd (zin a2 4) (zgd (zin a2 4) (zgd (zin (σ.1 0 36 (Int32.toNatClampNeg a2)) 8) (zrun C zT_111 30 [some (.inr (.inr (0, 30))), none, some (.inl (a2 + 1))] [] (zwI σ 0 18 (Int32.toNatClampNeg (σ.1 0 36 (Int32.toNatClampNeg a2))) (σ.1 0 37 (Int32.toNatClampNeg a2))))))) else (some ((σ.1 0 35 0), 0, σ)) :=
  (zrun_eq C zT_111 [30] 48 _ _ _ _).trans (by rfl)

/-- X11_game (II)I -/
theorem ez_112 (d : Nat) (p0 : Int32) (p1 : Int32) (σ : zM) : zev (d + 1) 112 [.inr (.inr (0, 30)), .inl p0, .inl p1] σ = (fun C : zC => ((C 143 [.inl p0] σ).bind fun x0 => if x0.1 = 0 then (some ((-1), 0, x0.2.2)) else ((C 141 [.inl p1, .inl 1, .inl 4] x0.2.2).bind fun x1 => if x1.1 = 0 then (some ((-1), 0, x1.2.2)) else ((C 71 [.inr (.inr (0, 35)), .inr (.inr (0, 0)), .inl p0, .inl p1] x1.2.2).bind fun x2 => some (x2.1, 0, x2.2.2))) : zR)) (zev d) :=
  (zev_m (T := zT_112) rfl rfl).trans ((zrun_eq (zev d) zT_112 [] 23 _ _ _ _).trans (by rfl))

/-- X11_move (II)I -/
theorem ez_113 (d : Nat) (p0 : Int32) (p1 : Int32) (σ : zM) : zev (d + 1) 113 [.inr (.inr (0, 30)), .inl p0, .inl p1] σ = (fun C : zC => ((C 143 [.inl p0] σ).bind fun x0 => if x0.1 = 0 then (some ((-1), 0, x0.2.2)) else ((C 141 [.inl p1, .inl 1, .inl 4] x0.2.2).bind fun x1 => if x1.1 = 0 then (some ((-1), 0, x1.2.2)) else ((C 72 [.inr (.inr (0, 35)), .inr (.inr (0, 0)), .inl p0, .inl p1] x1.2.2).bind fun x2 => some (x2.1, 0, x2.2.2))) : zR)) (zev d) :=
  (zev_m (T := zT_113) rfl rfl).trans ((zrun_eq (zev d) zT_113 [] 23 _ _ _ _).trans (by rfl))

/-- X11_isSeatable (I)Z -/
theorem ez_114 (d : Nat) (p0 : Int32) (σ : zM) : zev (d + 1) 114 [.inr (.inr (0, 30)), .inl p0] σ = (fun C : zC => (if (Int32.toUInt32 p0 >>> (Int32.toUInt32 (σ.1 0 15 0) &&& Int32.toUInt32 31)).toInt32 = 0 then ((C 271 [.inl p0] σ).bind fun x0 => if 4 < x0.1 then (zgd (zret 3 0) (some (0, 0, x0.2.2))) else (zgd (zret 3 1) (some (1, 0, x0.2.2)))) else (zgd (zret 3 0) (some (0, 0, σ))) : zR)) (zev d) :=
  (zev_m (T := zT_114) rfl rfl).trans ((zrun_eq (zev d) zT_114 [] 20 _ _ _ _).trans (by rfl))

/-- X11_report (II)I -/
theorem ez_115 (d : Nat) (p0 : Int32) (p1 : Int32) (σ : zM) : zev (d + 1) 115 [.inr (.inr (0, 30)), .inl p0, .inl p1] σ = (fun C : zC => ((C 13 [.inr (.inr (0, 1)), .inl p0] σ).bind fun x0 => if x0.1 = 0 then (some ((-1), 0, x0.2.2)) else ((C 141 [.inl p1, .inl 0, .inl 1] x0.2.2).bind fun x1 => if x1.1 = 0 then (some ((-1), 0, x1.2.2)) else (if (x1.2.2.1 0 19 0) < 6 then ((C 41 [.inr (.inr (0, 19)), .inl p0, .inl p1] x1.2.2).bind fun x2 => some (x2.1, 0, x2.2.2)) else (some ((-2), 0, x1.2.2)))) : zR)) (zev d) :=
  (zev_m (T := zT_115) rfl rfl).trans ((zrun_eq (zev d) zT_115 [] 33 _ _ _ _).trans (by rfl))

/-- X11_forget ()I -/
theorem ez_116 (d : Nat)  (σ : zM) : zev (d + 1) 116 [.inr (.inr (0, 30))] σ = (fun C : zC => (some ((σ.1 0 19 0), 0, zwI σ 0 19 0 0) : zR)) (zev d) :=
  (zev_m (T := zT_116) rfl rfl).trans ((zrun_eq (zev d) zT_116 [] 17 _ _ _ _).trans (by rfl))

/-- X11_span (I)I -/
theorem ez_117 (d : Nat) (p0 : Int32) (σ : zM) : zev (d + 1) 117 [.inr (.inr (0, 30)), .inl p0] σ = (fun C : zC => ((C 141 [.inl p0, .inl 0, .inl 2] σ).bind fun x0 => if x0.1 = 0 then (some ((-1), 0, x0.2.2)) else ((C 27 [.inr (.inr (0, 0))] x0.2.2).bind fun x1 => (C 42 [.inr (.inr (0, 19)), .inr (.inr (0, 0)), .inl (-9)] x1.2.2).bind fun x2 => if p0 = 0 then ((C 44 [.inr (.inr (0, 19))] x2.2.2).bind fun x3 => some (x3.1, 0, x3.2.2)) else ((C 44 [.inr (.inr (0, 19))] x2.2.2).bind fun x4 => if x4.1 = 0 then (some ((-3), 0, x4.2.2)) else (if p0 = 1 then (some ((x4.2.2.1 0 19 3), 0, x4.2.2)) else (some ((x4.2.2.1 0 19 4), 0, x4.2.2))))) : zR)) (zev d) :=
  (zev_m (T := zT_117) rfl rfl).trans ((zrun_eq (zev d) zT_117 [] 49 _ _ _ _).trans (by rfl))

/-- X11_liar ()I -/
theorem ez_118 (d : Nat)  (σ : zM) : zev (d + 1) 118 [.inr (.inr (0, 30))] σ = (fun C : zC => ((C 27 [.inr (.inr (0, 0))] σ).bind fun x0 => (C 42 [.inr (.inr (0, 19)), .inr (.inr (0, 0)), .inl (-9)] x0.2.2).bind fun x1 => (C 44 [.inr (.inr (0, 19))] x1.2.2).bind fun x2 => if 0 < x2.1 then (some ((-3), 0, x2.2.2)) else (zrun C zT_118 41 [some (.inr (.inr (0, 30))), some (.inl 0)] [] x2.2.2) : zR)) (zev d) :=
  (zev_m (T := zT_118) rfl rfl).trans ((zrun_eq (zev d) zT_118 [41] 48 _ _ _ _).trans (by rfl))
theorem ez_118_41 (C : zC) (a1 : Int32) (σ : zM) : zrun C zT_118 41 [some (.inr (.inr (0, 30))), some (.inl a1)] [] σ = if a1 < (σ.1 0 19 0) then ((C 42 [.inr (.inr (0, 19)), .inr (.inr (0, 0)), .inl a1] σ).bind fun x0 => (C 44 [.inr (.inr (0, 19))] x0.2.2).bind fun x1 => if 0 < x1.1 then (some (a1, 0, x1.2.2)) else (zrun C zT_118 41 [some (.inr (.inr (0, 30))), some (.inl (a1 + 1))] [] x1.2.2)) else (some ((-3), 0, σ)) :=
  (zrun_eq C zT_118 [41] 48 _ _ _ _).trans (by rfl)

/-- X11_seed (I)I -/
theorem ez_119 (d : Nat) (p0 : Int32) (σ : zM) : zev (d + 1) 119 [.inr (.inr (0, 30)), .inl p0] σ = (fun C : zC => (some ((σ.1 0 0 3), 0, zwI σ 0 0 3 p0) : zR)) (zev d) :=
  (zev_m (T := zT_119) rfl rfl).trans ((zrun_eq (zev d) zT_119 [] 15 _ _ _ _).trans (by rfl))

/-- X11_draw ()I -/
theorem ez_120 (d : Nat)  (σ : zM) : zev (d + 1) 120 [.inr (.inr (0, 30))] σ = (fun C : zC => ((C 122 [.inl (σ.1 0 0 3)] σ).bind fun x0 => (C 123 [.inl ((zwI x0.2.2 0 0 3 x0.1).1 0 0 3)] (zwI x0.2.2 0 0 3 x0.1)).bind fun x1 => some (((zwI x1.2.2 0 1 8 x1.1).1 0 1 8), 0, zwI x1.2.2 0 1 8 x1.1) : zR)) (zev d) :=
  (zev_m (T := zT_120) rfl rfl).trans ((zrun_eq (zev d) zT_120 [] 25 _ _ _ _).trans (by rfl))

/-- X11_often (I)I -/
theorem ez_121 (d : Nat) (p0 : Int32) (σ : zM) : zev (d + 1) 121 [.inr (.inr (0, 30)), .inl p0] σ = (fun C : zC => ((C 141 [.inl p0, .inl 1, .inl 60] σ).bind fun x0 => if x0.1 = 0 then (some ((-1), 0, x0.2.2)) else ((C 109 [.inr (.inr (0, 30))] x0.2.2).bind fun x1 => zrun C zT_121 31 [some (.inr (.inr (0, 30))), some (.inl p0), some (.inl x1.1), some (.inl (x1.2.2.1 0 0 3)), some (.inl 0), some (.inl 0)] [] x1.2.2) : zR)) (zev d) :=
  (zev_m (T := zT_121) rfl rfl).trans ((zrun_eq (zev d) zT_121 [31] 39 _ _ _ _).trans (by rfl))
theorem ez_121_31 (C : zC) (d0 : Option zV) (a1 : Int32) (a2 : Int32) (a3 : Int32) (a4 : Int32) (a5 : Int32) (σ : zM) : zrun C zT_121 31 [d0, some (.inl a1), some (.inl a2), some (.inl a3), some (.inl a4), some (.inl a5)] [] σ = if a5 < a1 then ((C 122 [.inl a3] σ).bind fun x0 => (C 123 [.inl x0.1] x0.2.2).bind fun x1 => (C 145 [.inl a2, .inl x1.1] x1.2.2).bind fun x2 => if x2.1 = 0 then (zrun C zT_121 31 [none, some (.inl a1), some (.inl a2), some (.inl x0.1), some (.inl a4), some (.inl (a5 + 1))] [] x2.2.2) else (zrun C zT_121 31 [none, some (.inl a1), some (.inl a2), some (.inl x0.1), some (.inl (a4 + 1)), some (.inl (a5 + 1))] [] x2.2.2)) else (some (a4, 0, σ)) :=
  (zrun_eq C zT_121 [31] 39 _ _ _ _).trans (by rfl)

/-- X11_drawnFrom (I)I -/
theorem ez_122 (d : Nat) (p0 : Int32) (σ : zM) : zev (d + 1) 122 [.inl p0] σ = (fun C : zC => (some (((p0 * 1103515245) + 12345), 0, σ) : zR)) (zev d) :=
  (zev_m (T := zT_122) rfl rfl).trans ((zrun_eq (zev d) zT_122 [] 11 _ _ _ _).trans (by rfl))

/-- X11_windOf (I)I -/
theorem ez_123 (d : Nat) (p0 : Int32) (σ : zM) : zev (d + 1) 123 [.inl p0] σ = (fun C : zC => (some (((Int32.toUInt32 p0 >>> (Int32.toUInt32 16 &&& Int32.toUInt32 31)).toInt32 - (Int32.toUInt32 p0 >>> (Int32.toUInt32 16 &&& Int32.toUInt32 31)).toInt32 / 10 * 10), 0, σ) : zR)) (zev d) :=
  (zev_m (T := zT_123) rfl rfl).trans ((zrun_eq (zev d) zT_123 [] 11 _ _ _ _).trans (by rfl))

/-- X11_prove (I)I -/
theorem ez_124 (d : Nat) (p0 : Int32) (σ : zM) : zev (d + 1) 124 [.inr (.inr (0, 30)), .inl p0] σ = (fun C : zC => ((C 13 [.inr (.inr (0, 1)), .inl p0] σ).bind fun x0 => if x0.1 = 0 then (some ((-1), 0, x0.2.2)) else ((C 46 [.inr (.inr (0, 38)), .inr (.inr (0, 0)), .inl p0] x0.2.2).bind fun x1 => some ((x1.2.2.1 0 38 0), 0, x1.2.2)) : zR)) (zev d) :=
  (zev_m (T := zT_124) rfl rfl).trans ((zrun_eq (zev d) zT_124 [] 23 _ _ _ _).trans (by rfl))

/-- X11_row (II)I -/
theorem ez_125 (d : Nat) (p0 : Int32) (p1 : Int32) (σ : zM) : zev (d + 1) 125 [.inr (.inr (0, 30)), .inl p0, .inl p1] σ = (fun C : zC => ((C 45 [.inr (.inr (0, 38)), .inl p0, .inl p1] σ).bind fun x0 => if x0.1 = 0 then (some ((-9), 0, x0.2.2)) else (zgd (zin p0 9) (zgd (zin p1 3) (some ((x0.2.2.1 (Int32.toNatClampNeg p0) 40 (Int32.toNatClampNeg p1)), 0, x0.2.2)))) : zR)) (zev d) :=
  (zev_m (T := zT_125) rfl rfl).trans ((zrun_eq (zev d) zT_125 [] 21 _ _ _ _).trans (by rfl))

/-- X11_alterRow (III)I -/
theorem ez_126 (d : Nat) (p0 : Int32) (p1 : Int32) (p2 : Int32) (σ : zM) : zev (d + 1) 126 [.inr (.inr (0, 30)), .inl p0, .inl p1, .inl p2] σ = (fun C : zC => ((C 45 [.inr (.inr (0, 38)), .inl p0, .inl p1] σ).bind fun x0 => if x0.1 = 0 then (some ((-9), 0, x0.2.2)) else (zgd (zin p0 9) ((C 147 [.inr (.inr ((Int32.toNatClampNeg p0), 40)), .inl p1, .inl p2] x0.2.2).bind fun x1 => some (x1.1, 0, x1.2.2))) : zR)) (zev d) :=
  (zev_m (T := zT_126) rfl rfl).trans ((zrun_eq (zev d) zT_126 [] 22 _ _ _ _).trans (by rfl))

/-- X11_judge ()I -/
theorem ez_127 (d : Nat)  (σ : zM) : zev (d + 1) 127 [.inr (.inr (0, 30))] σ = (fun C : zC => ((C 47 [.inr (.inr (0, 38)), .inr (.inr (0, 0))] σ).bind fun x0 => some (x0.1, 0, x0.2.2) : zR)) (zev d) :=
  (zev_m (T := zT_127) rfl rfl).trans ((zrun_eq (zev d) zT_127 [] 11 _ _ _ _).trans (by rfl))

/-- X11_sheet (III)I -/
theorem ez_128 (d : Nat) (p0 : Int32) (p1 : Int32) (p2 : Int32) (σ : zM) : zev (d + 1) 128 [.inr (.inr (0, 30)), .inl p0, .inl p1, .inl p2] σ = (fun C : zC => ((C 144 [.inl p0] σ).bind fun x0 => if x0.1 = 0 then (some ((-1), 0, x0.2.2)) else ((C 141 [.inl p1, .inl (-1), .inl 4] x0.2.2).bind fun x1 => if x1.1 = 0 then (some ((-1), 0, x1.2.2)) else (if p1 = (-1) then (zgd (zin p0 4) (some (1, 0, zwI x1.2.2 0 42 (Int32.toNatClampNeg p0) (-1)))) else (if 40 < p2 then (some ((-1), 0, x1.2.2)) else (if p2 < 0 then (some ((-14), 0, x1.2.2)) else ((C 17 [.inr (.inr (0, 41)), .inl p0, .inl p1, .inl p2] x1.2.2).bind fun x2 => some (1, 0, x2.2.2)))))) : zR)) (zev d) :=
  (zev_m (T := zT_128) rfl rfl).trans ((zrun_eq (zev d) zT_128 [] 43 _ _ _ _).trans (by rfl))

/-- X11_write (III)I -/
theorem ez_129 (d : Nat) (p0 : Int32) (p1 : Int32) (p2 : Int32) (σ : zM) : zev (d + 1) 129 [.inr (.inr (0, 30)), .inl p0, .inl p1, .inl p2] σ = (fun C : zC => ((C 144 [.inl p0] σ).bind fun x0 => if x0.1 = 0 then (some ((-1), 0, x0.2.2)) else (zgd (zin p0 4) (if (x0.2.2.1 0 42 (Int32.toNatClampNeg p0)) = (-1) then (some ((-11), 0, x0.2.2)) else ((C 19 [.inr (.inr (0, 41)), .inl p0, .inl p1] x0.2.2).bind fun x1 => if x1.1 = 0 then (some ((-12), 0, x1.2.2)) else (zgd (zin p0 4) (zgd (zin p0 4) ((C 138 [.inl (x1.2.2.1 0 42 (Int32.toNatClampNeg p0)), .inl p2] x1.2.2).bind fun x2 => zgd (zin p1 40) (some (1, 0, zwL x2.2.2 (Int32.toNatClampNeg p0) 45 (Int32.toNatClampNeg p1) x2.2.1)))))))) : zR)) (zev d) :=
  (zev_m (T := zT_129) rfl rfl).trans ((zrun_eq (zev d) zT_129 [] 43 _ _ _ _).trans (by rfl))

/-- X11_item (III)I -/
theorem ez_130 (d : Nat) (p0 : Int32) (p1 : Int32) (p2 : Int32) (σ : zM) : zev (d + 1) 130 [.inr (.inr (0, 30)), .inl p0, .inl p1, .inl p2] σ = (fun C : zC => ((C 144 [.inl p0] σ).bind fun x0 => if x0.1 = 0 then (some ((-1), 0, x0.2.2)) else ((C 141 [.inl p1, .inl 0, .inl 4] x0.2.2).bind fun x1 => if x1.1 = 0 then (some ((-1), 0, x1.2.2)) else ((C 18 [.inr (.inr (0, 41)), .inl p0, .inl p1] x1.2.2).bind fun x2 => if x2.1 = 0 then ((C 19 [.inr (.inr (0, 41)), .inl p0, .inl p2] x2.2.2).bind fun x3 => if x3.1 = 0 then (some ((-12), 0, x3.2.2)) else (zgd (zin p0 4) (zgd (zin p2 40) (some ((Int64.toInt32 (x3.2.2.2 (Int32.toNatClampNeg p0) 45 (Int32.toNatClampNeg p2))), 0, x3.2.2))))) else (some (x2.1, 0, x2.2.2)))) : zR)) (zev d) :=
  (zev_m (T := zT_130) rfl rfl).trans ((zrun_eq (zev d) zT_130 [] 42 _ _ _ _).trans (by rfl))

/-- X11_climbs (IIII)I -/
theorem ez_131 (d : Nat) (p0 : Int32) (p1 : Int32) (p2 : Int32) (p3 : Int32) (σ : zM) : zev (d + 1) 131 [.inr (.inr (0, 30)), .inl p0, .inl p1, .inl p2, .inl p3] σ = (fun C : zC => ((C 37 [.inr (.inr (0, 15)), .inl p0] σ).bind fun x0 => if x0.1 = 0 then (some ((-1), 0, x0.2.2)) else ((C 144 [.inl p1] x0.2.2).bind fun x1 => if x1.1 = 0 then (some ((-1), 0, x1.2.2)) else ((C 141 [.inl p3, .inl 0, .inl 20] x1.2.2).bind fun x2 => if x2.1 = 0 then (some ((-1), 0, x2.2.2)) else ((C 18 [.inr (.inr (0, 41)), .inl p1, .inl 0] x2.2.2).bind fun x3 => if x3.1 = 0 then (zrun C zT_131 59 [some (.inr (.inr (0, 30))), some (.inl p0), some (.inl p1), some (.inl p2), some (.inl p3), some (.inl x3.1), some (.inl 0), some (.inl 0), none] [] x3.2.2) else (some (x3.1, 0, x3.2.2))))) : zR)) (zev d) :=
  (zev_m (T := zT_131) rfl rfl).trans ((zrun_eq (zev d) zT_131 [59] 77 _ _ _ _).trans (by rfl))
theorem ez_131_59 (C : zC) (a1 : Int32) (a2 : Int32) (a3 : Int32) (a4 : Int32) (d5 : Option zV) (a6 : Int32) (a7 : Int32) (d8 : Option zV) (σ : zM) : zrun C zT_131 59 [some (.inr (.inr (0, 30))), some (.inl a1), some (.inl a2), some (.inl a3), some (.inl a4), d5, some (.inl a6), some (.inl a7), d8] [] σ = if a7 < a4 then ((C 19 [.inr (.inr (0, 41)), .inl a2, .inl (a3 + a7)] σ).bind fun x0 => if x0.1 = 0 then (some ((-12), 0, x0.2.2)) else (zgd (zin a2 4) (zgd (zin (a3 + a7) 40) ((C 14 [.inr (.inr (0, 1)), .inl (Int64.toInt32 (x0.2.2.2 (Int32.toNatClampNeg a2) 45 (Int32.toNatClampNeg (a3 + a7))))] x0.2.2).bind fun x1 => if x1.1 = 0 then (zrun C zT_131 59 [some (.inr (.inr (0, 30))), some (.inl a1), some (.inl a2), some (.inl a3), some (.inl a4), none, some (.inl a6), some (.inl (a7 + 1)), some (.inl (Int64.toInt32 (x0.2.2.2 (Int32.toNatClampNeg a2) 45 (Int32.toNatClampNeg (a3 + a7)))))] [] x1.2.2) else (zgd (zin a1 8) (zrun C zT_131 59 [some (.inr (.inr (0, 30))), some (.inl a1), some (.inl a2), some (.inl a3), some (.inl a4), none, some (.inl (a6 + 1)), some (.inl (a7 + 1)), some (.inl (Int64.toInt32 (x0.2.2.2 (Int32.toNatClampNeg a2) 45 (Int32.toNatClampNeg (a3 + a7)))))] [] (zwI x1.2.2 0 18 (Int32.toNatClampNeg a1) (Int64.toInt32 (x0.2.2.2 (Int32.toNatClampNeg a2) 45 (Int32.toNatClampNeg (a3 + a7))))))))))) else (some (a6, 0, σ)) :=
  (zrun_eq C zT_131 [59] 77 _ _ _ _).trans (by rfl)

/-- X11_shelf (III)I -/
theorem ez_132 (d : Nat) (p0 : Int32) (p1 : Int32) (p2 : Int32) (σ : zM) : zev (d + 1) 132 [.inr (.inr (0, 30)), .inl p0, .inl p1, .inl p2] σ = (fun C : zC => ((C 144 [.inl p0] σ).bind fun x0 => if x0.1 = 0 then (some ((-1), 0, x0.2.2)) else (if p1 = 0 then ((C 13 [.inr (.inr (0, 1)), .inl p2] x0.2.2).bind fun x1 => if x1.1 = 0 then (some ((-1), 0, x1.2.2)) else ((C 20 [.inr (.inr (0, 41)), .inl p0, .inl p2] x1.2.2).bind fun x2 => some (1, 0, x2.2.2))) else if p1 = 1 then ((C 144 [.inl p2] x0.2.2).bind fun x3 => if x3.1 = 0 then (some ((-1), 0, x3.2.2)) else ((C 21 [.inr (.inr (0, 41)), .inl p0, .inl p2] x3.2.2).bind fun x4 => some (1, 0, x4.2.2))) else if p1 = 2 then ((C 22 [.inr (.inr (0, 41)), .inl p0] x0.2.2).bind fun x5 => some (1, 0, x5.2.2)) else (some ((-1), 0, x0.2.2))) : zR)) (zev d) :=
  (zev_m (T := zT_132) rfl rfl).trans ((zrun_eq (zev d) zT_132 [] 47 _ _ _ _).trans (by rfl))

/-- X11_taken (II)I -/
theorem ez_133 (d : Nat) (p0 : Int32) (p1 : Int32) (σ : zM) : zev (d + 1) 133 [.inr (.inr (0, 30)), .inl p0, .inl p1] σ = (fun C : zC => ((C 141 [.inl p1, .inl 0, .inl 5] σ).bind fun x0 => (C 144 [.inl p0] x0.2.2).bind fun x1 => if x1.1 = 0 then (some ((-1), 0, x1.2.2)) else (if x0.1 = 0 then ((C 141 [.inl p1, .inl 10, .inl 14] x1.2.2).bind fun x2 => if x2.1 = 0 then (some ((-1), 0, x2.2.2)) else (zrun C zT_133 31 [some (.inr (.inr (0, 30))), some (.inl p0), some (.inl p1), some (.inl x0.1), none] [] x2.2.2)) else (zrun C zT_133 31 [some (.inr (.inr (0, 30))), some (.inl p0), some (.inl p1), some (.inl x0.1), none] [] x1.2.2)) : zR)) (zev d) :=
  (zev_m (T := zT_133) rfl rfl).trans ((zrun_eq (zev d) zT_133 [31] 68 _ _ _ _).trans (by rfl))
theorem ez_133_31 (C : zC) (a1 : Int32) (a2 : Int32) (a3 : Int32) (d4 : Option zV) (σ : zM) : zrun C zT_133 31 [some (.inr (.inr (0, 30))), some (.inl a1), some (.inl a2), some (.inl a3), d4] [] σ = (C 24 [.inr (.inr (0, 41)), .inl a1] σ).bind fun x0 => if x0.1 = 0 then ((C 137 [.inr (.inr (0, 30)), .inl a1] x0.2.2).bind fun x1 => if x1.1 = (-9) then (some ((-11), 0, x1.2.2)) else (if a3 = 0 then (some ((-13), 0, x1.2.2)) else (zgd (zin x1.1 9) ((C 146 [.inl (x1.2.2.1 0 2 (Int32.toNatClampNeg x1.1)), .inl a2] x1.2.2).bind fun x2 => if x2.1 = 0 then (some ((-13), 0, x2.2.2)) else (some (x1.1, 0, x2.2.2)))))) else (zgd (zin a1 4) (if (x0.2.2.1 0 48 (Int32.toNatClampNeg a1)) = (a2 - 10) then (zgd (zin a1 4) (some ((x0.2.2.1 0 47 (Int32.toNatClampNeg a1)), 0, x0.2.2))) else (some ((-13), 0, x0.2.2)))) :=
  (zrun_eq C zT_133 [31] 68 _ _ _ _).trans (by rfl)

/-- X11_act (III)I -/
theorem ez_134 (d : Nat) (p0 : Int32) (p1 : Int32) (p2 : Int32) (σ : zM) : zev (d + 1) 134 [.inr (.inr (0, 30)), .inl p0, .inl p1, .inl p2] σ = (fun C : zC => ((C 144 [.inl p0] (zwI σ 0 49 0 0)).bind fun x0 => if x0.1 = 0 then (some (0, 0, x0.2.2)) else ((C 141 [.inl p1, .inl 0, .inl 3] x0.2.2).bind fun x1 => if x1.1 = 0 then (some (0, 0, x1.2.2)) else ((C 137 [.inr (.inr (0, 30)), .inl p0] x1.2.2).bind fun x2 => if x2.1 = (-9) then (some (0, 0, x2.2.2)) else (zgd (zin x2.1 9) (zgd (zin x2.1 9) ((C 0 [.inr (.inr (0, 49)), .inl (x2.2.2.1 0 2 (Int32.toNatClampNeg x2.1)), .inl x2.1, .inl (x2.2.2.1 0 4 (Int32.toNatClampNeg x2.1))] x2.2.2).bind fun x3 => if p1 = 0 then ((C 2 [.inr (.inr (0, 49)), .inl p2] x3.2.2).bind fun x4 => if (x4.2.2.1 0 49 2) = 0 then (some (x4.1, 0, x4.2.2)) else (some ((-15), 0, x4.2.2))) else if p1 = 1 then ((C 3 [.inr (.inr (0, 49)), .inl p2] x3.2.2).bind fun x5 => if (x5.2.2.1 0 49 2) = 0 then (some (x5.1, 0, x5.2.2)) else (some ((-15), 0, x5.2.2))) else if p1 = 2 then ((C 4 [.inr (.inr (0, 49)), .inl p2] x3.2.2).bind fun x6 => if (x6.2.2.1 0 49 2) = 0 then (some (x6.1, 0, x6.2.2)) else (some ((-15), 0, x6.2.2))) else ((C 5 [.inr (.inr (0, 49)), .inl p2] x3.2.2).bind fun x7 => if (x7.2.2.1 0 49 2) = 0 then (some (x7.1, 0, x7.2.2)) else (some ((-15), 0, x7.2.2)))))))) : zR)) (zev d) :=
  (zev_m (T := zT_134) rfl rfl).trans ((zrun_eq (zev d) zT_134 [] 77 _ _ _ _).trans (by rfl))

/-- X11_trace (I)I -/
theorem ez_135 (d : Nat) (p0 : Int32) (σ : zM) : zev (d + 1) 135 [.inr (.inr (0, 30)), .inl p0] σ = (fun C : zC => ((C 141 [.inl p0, .inl 0, .inl ((σ.1 0 49 0) - 1)] σ).bind fun x0 => if x0.1 = 0 then (some ((-3), 0, x0.2.2)) else (zgd (zin p0 30) (some ((x0.2.2.1 0 50 (Int32.toNatClampNeg p0)), 0, x0.2.2))) : zR)) (zev d) :=
  (zev_m (T := zT_135) rfl rfl).trans ((zrun_eq (zev d) zT_135 [] 22 _ _ _ _).trans (by rfl))

/-- X11_many (I)I -/
theorem ez_136 (d : Nat) (p0 : Int32) (σ : zM) : zev (d + 1) 136 [.inr (.inr (0, 30)), .inl p0] σ = (fun C : zC => (if p0 = 0 then (some ((σ.1 0 1 0), 0, σ)) else if p0 = 1 then (some ((σ.1 0 7 0), 0, σ)) else if p0 = 2 then (some ((σ.1 0 15 0), 0, σ)) else if p0 = 3 then (some ((σ.1 0 19 0), 0, σ)) else if p0 = 4 then (some ((σ.1 0 38 0), 0, σ)) else if p0 = 5 then (some ((σ.1 0 31 0), 0, σ)) else if p0 = 6 then (some ((σ.1 0 49 0), 0, σ)) else (some ((-1), 0, σ)) : zR)) (zev d) :=
  (zev_m (T := zT_136) rfl rfl).trans ((zrun_eq (zev d) zT_136 [] 42 _ _ _ _).trans (by rfl))

/-- X11_boughOn (I)I -/
theorem ez_137 (d : Nat) (p0 : Int32) (σ : zM) : zev (d + 1) 137 [.inr (.inr (0, 30)), .inl p0] σ = (fun C : zC => ((C 23 [.inr (.inr (0, 41)), .inl p0] σ).bind fun x0 => if x0.1 = 0 then (if 0 = 0 then (some ((-9), 0, x0.2.2)) else (zgd (zin p0 4) (some ((x0.2.2.1 0 47 (Int32.toNatClampNeg p0)), 0, x0.2.2)))) else (zgd (zin p0 4) ((C 13 [.inr (.inr (0, 1)), .inl (x0.2.2.1 0 47 (Int32.toNatClampNeg p0))] x0.2.2).bind fun x1 => if x1.1 = 0 then (if 0 = 0 then (some ((-9), 0, x1.2.2)) else (zgd (zin p0 4) (some ((x1.2.2.1 0 47 (Int32.toNatClampNeg p0)), 0, x1.2.2)))) else (if 1 = 0 then (some ((-9), 0, x1.2.2)) else (zgd (zin p0 4) (some ((x1.2.2.1 0 47 (Int32.toNatClampNeg p0)), 0, x1.2.2)))))) : zR)) (zev d) :=
  (zev_m (T := zT_137) rfl rfl).trans ((zrun_eq (zev d) zT_137 [] 34 _ _ _ _).trans (by rfl))

/-- X11_narrowed (II)J -/
theorem ez_138 (d : Nat) (p0 : Int32) (p1 : Int32) (σ : zM) : zev (d + 1) 138 [.inl p0, .inl p1] σ = (fun C : zC => (if p0 = 0 then (some (0, (Int32.toInt64 ((Int32.toInt8 p1).toInt32)), σ)) else if p0 = 1 then (some (0, (Int32.toInt64 ((Int32.toInt16 p1).toInt32)), σ)) else if p0 = 2 then (some (0, (Int32.toInt64 p1), σ)) else if p0 = 3 then (some (0, (Int32.toInt64 p1), σ)) else if p0 = 4 then (if p1 = 0 then (some (0, 0, σ)) else (some (0, 1, σ))) else (some (0, (Int32.toInt64 p1), σ)) : zR)) (zev d) :=
  (zev_m (T := zT_138) rfl rfl).trans ((zrun_eq (zev d) zT_138 [] 24 _ _ _ _).trans (by rfl))

/-- X11_keep ()I -/
theorem ez_139 (d : Nat)  (σ : zM) : zev (d + 1) 139 [.inr (.inr (0, 30))] σ = (fun C : zC => ((C 25 [.inr (.inr (2, 0)), .inr (.inr (0, 0))] σ).bind fun x0 => zgd (z01 1) (some (1, 0, zwI x0.2.2 0 30 3 1)) : zR)) (zev d) :=
  (zev_m (T := zT_139) rfl rfl).trans ((zrun_eq (zev d) zT_139 [] 15 _ _ _ _).trans (by rfl))

/-- X11_again ()I -/
theorem ez_140 (d : Nat)  (σ : zM) : zev (d + 1) 140 [.inr (.inr (0, 30))] σ = (fun C : zC => (if (σ.1 0 30 3) = 0 then (some ((-3), 0, σ)) else ((C 25 [.inr (.inr (0, 0)), .inr (.inr (2, 0))] σ).bind fun x0 => some ((x0.2.2.1 0 1 0), 0, x0.2.2)) : zR)) (zev d) :=
  (zev_m (T := zT_140) rfl rfl).trans ((zrun_eq (zev d) zT_140 [] 20 _ _ _ _).trans (by rfl))

/-- X11_isWithin (III)Z -/
theorem ez_141 (d : Nat) (p0 : Int32) (p1 : Int32) (p2 : Int32) (σ : zM) : zev (d + 1) 141 [.inl p0, .inl p1, .inl p2] σ = (fun C : zC => (if p0 < p1 then (zgd (zret 3 0) (some (0, 0, σ))) else (if p2 < p0 then (zgd (zret 3 0) (some (0, 0, σ))) else (zgd (zret 3 1) (some (1, 0, σ)))) : zR)) (zev d) :=
  (zev_m (T := zT_141) rfl rfl).trans ((zrun_eq (zev d) zT_141 [] 15 _ _ _ _).trans (by rfl))

/-- X11_isBoughKind (I)Z -/
theorem ez_142 (d : Nat) (p0 : Int32) (σ : zM) : zev (d + 1) 142 [.inl p0] σ = (fun C : zC => ((C 141 [.inl p0, .inl 1, .inl 5] σ).bind fun x0 => zgd (zret 3 x0.1) (some (x0.1, 0, x0.2.2)) : zR)) (zev d) :=
  (zev_m (T := zT_142) rfl rfl).trans ((zrun_eq (zev d) zT_142 [] 10 _ _ _ _).trans (by rfl))

/-- X11_isSide (I)Z -/
theorem ez_143 (d : Nat) (p0 : Int32) (σ : zM) : zev (d + 1) 143 [.inl p0] σ = (fun C : zC => (if p0 = 0 then (zgd (zret 3 1) (some (1, 0, σ))) else (if p0 = 1 then (zgd (zret 3 1) (some (1, 0, σ))) else (zgd (zret 3 0) (some (0, 0, σ)))) : zR)) (zev d) :=
  (zev_m (T := zT_143) rfl rfl).trans ((zrun_eq (zev d) zT_143 [] 14 _ _ _ _).trans (by rfl))

/-- X11_isPlace (I)Z -/
theorem ez_144 (d : Nat) (p0 : Int32) (σ : zM) : zev (d + 1) 144 [.inl p0] σ = (fun C : zC => ((C 141 [.inl p0, .inl 0, .inl 3] σ).bind fun x0 => zgd (zret 3 x0.1) (some (x0.1, 0, x0.2.2)) : zR)) (zev d) :=
  (zev_m (T := zT_144) rfl rfl).trans ((zrun_eq (zev d) zT_144 [] 10 _ _ _ _).trans (by rfl))

/-- X11_isIn (II)Z -/
theorem ez_145 (d : Nat) (p0 : Int32) (p1 : Int32) (σ : zM) : zev (d + 1) 145 [.inl p0, .inl p1] σ = (fun C : zC => (if ((p0 >>> (p1 &&& 31)) &&& 1) = 0 then (zgd (zret 3 0) (some (0, 0, σ))) else (zgd (zret 3 1) (some (1, 0, σ))) : zR)) (zev d) :=
  (zev_m (T := zT_145) rfl rfl).trans ((zrun_eq (zev d) zT_145 [] 15 _ _ _ _).trans (by rfl))

/-- X11_isKindOf (II)Z -/
theorem ez_146 (d : Nat) (p0 : Int32) (p1 : Int32) (σ : zM) : zev (d + 1) 146 [.inl p0, .inl p1] σ = (fun C : zC => (if p1 = 0 then (zgd (zret 3 1) (some (1, 0, σ))) else (if p1 = p0 then (zgd (zret 3 1) (some (1, 0, σ))) else (if p1 = 2 then (if p0 = 3 then (zgd (zret 3 1) (some (1, 0, σ))) else (if p1 = 4 then (if p0 = 5 then (zgd (zret 3 1) (some (1, 0, σ))) else (zgd (zret 3 0) (some (0, 0, σ)))) else (zgd (zret 3 0) (some (0, 0, σ))))) else (if p1 = 4 then (if p0 = 5 then (zgd (zret 3 1) (some (1, 0, σ))) else (zgd (zret 3 0) (some (0, 0, σ)))) else (zgd (zret 3 0) (some (0, 0, σ)))))) : zR)) (zev d) :=
  (zev_m (T := zT_146) rfl rfl).trans ((zrun_eq (zev d) zT_146 [] 26 _ _ _ _).trans (by rfl))

/-- X11_replaced ([III)I -/
theorem ez_147k2 (d : Nat) (h0 : Nat) (p1 : Int32) (p2 : Int32) (σ : zM) : zev (d + 1) 147 [.inr (.inr (h0, 2)), .inl p1, .inl p2] σ = (fun C : zC => (zgd (zin p1 9) (zgd (zin p1 9) (some ((σ.1 h0 2 (Int32.toNatClampNeg p1)), 0, zwI σ h0 2 (Int32.toNatClampNeg p1) p2))) : zR)) (zev d) :=
  (zev_m (T := zT_147) rfl rfl).trans ((zrun_eq (zev d) zT_147 [] 15 _ _ _ _).trans (by rfl))

/-- X11_replaced ([III)I -/
theorem ez_147k3 (d : Nat) (h0 : Nat) (p1 : Int32) (p2 : Int32) (σ : zM) : zev (d + 1) 147 [.inr (.inr (h0, 3)), .inl p1, .inl p2] σ = (fun C : zC => (zgd (zin p1 9) (zgd (zin p1 9) (some ((σ.1 h0 3 (Int32.toNatClampNeg p1)), 0, zwI σ h0 3 (Int32.toNatClampNeg p1) p2))) : zR)) (zev d) :=
  (zev_m (T := zT_147) rfl rfl).trans ((zrun_eq (zev d) zT_147 [] 15 _ _ _ _).trans (by rfl))

/-- X11_replaced ([III)I -/
theorem ez_147k4 (d : Nat) (h0 : Nat) (p1 : Int32) (p2 : Int32) (σ : zM) : zev (d + 1) 147 [.inr (.inr (h0, 4)), .inl p1, .inl p2] σ = (fun C : zC => (zgd (zin p1 9) (zgd (zin p1 9) (some ((σ.1 h0 4 (Int32.toNatClampNeg p1)), 0, zwI σ h0 4 (Int32.toNatClampNeg p1) p2))) : zR)) (zev d) :=
  (zev_m (T := zT_147) rfl rfl).trans ((zrun_eq (zev d) zT_147 [] 15 _ _ _ _).trans (by rfl))

/-- X11_replaced ([III)I -/
theorem ez_147k5 (d : Nat) (h0 : Nat) (p1 : Int32) (p2 : Int32) (σ : zM) : zev (d + 1) 147 [.inr (.inr (h0, 5)), .inl p1, .inl p2] σ = (fun C : zC => (zgd (zin p1 9) (zgd (zin p1 9) (some ((σ.1 h0 5 (Int32.toNatClampNeg p1)), 0, zwI σ h0 5 (Int32.toNatClampNeg p1) p2))) : zR)) (zev d) :=
  (zev_m (T := zT_147) rfl rfl).trans ((zrun_eq (zev d) zT_147 [] 15 _ _ _ _).trans (by rfl))

/-- X11_replaced ([III)I -/
theorem ez_147k18 (d : Nat) (h0 : Nat) (p1 : Int32) (p2 : Int32) (σ : zM) : zev (d + 1) 147 [.inr (.inr (h0, 18)), .inl p1, .inl p2] σ = (fun C : zC => (zgd (zin p1 8) (zgd (zin p1 8) (some ((σ.1 h0 18 (Int32.toNatClampNeg p1)), 0, zwI σ h0 18 (Int32.toNatClampNeg p1) p2))) : zR)) (zev d) :=
  (zev_m (T := zT_147) rfl rfl).trans ((zrun_eq (zev d) zT_147 [] 15 _ _ _ _).trans (by rfl))

/-- X11_replaced ([III)I -/
theorem ez_147k40 (d : Nat) (h0 : Nat) (p1 : Int32) (p2 : Int32) (σ : zM) : zev (d + 1) 147 [.inr (.inr (h0, 40)), .inl p1, .inl p2] σ = (fun C : zC => (zgd (zin p1 3) (zgd (zin p1 3) (some ((σ.1 h0 40 (Int32.toNatClampNeg p1)), 0, zwI σ h0 40 (Int32.toNatClampNeg p1) p2))) : zR)) (zev d) :=
  (zev_m (T := zT_147) rfl rfl).trans ((zrun_eq (zev d) zT_147 [] 15 _ _ _ _).trans (by rfl))

/-- X11_copyRow ([I[I)V -/
theorem ez_148k2 (d : Nat) (h0 : Nat) (h1 : Nat) (σ : zM) : zev (d + 1) 148 [.inr (.inr (h0, 2)), .inr (.inr (h1, 2))] σ = (fun C : zC => ((C 273 [.inl (nI 9), .inl (nI 9)] σ).bind fun x0 => (C 282 [.inr (.inr (h0, 2)), .inl 0, .inr (.inr (h1, 2)), .inl 0, .inl x0.1] x0.2.2).bind fun x1 => some (0, 0, x1.2.2) : zR)) (zev d) :=
  (zev_m (T := zT_148) rfl rfl).trans ((zrun_eq (zev d) zT_148 [] 16 _ _ _ _).trans (by rfl))

/-- X11_copyRow ([I[I)V -/
theorem ez_148k3 (d : Nat) (h0 : Nat) (h1 : Nat) (σ : zM) : zev (d + 1) 148 [.inr (.inr (h0, 3)), .inr (.inr (h1, 3))] σ = (fun C : zC => ((C 273 [.inl (nI 9), .inl (nI 9)] σ).bind fun x0 => (C 282 [.inr (.inr (h0, 3)), .inl 0, .inr (.inr (h1, 3)), .inl 0, .inl x0.1] x0.2.2).bind fun x1 => some (0, 0, x1.2.2) : zR)) (zev d) :=
  (zev_m (T := zT_148) rfl rfl).trans ((zrun_eq (zev d) zT_148 [] 16 _ _ _ _).trans (by rfl))

/-- X11_copyRow ([I[I)V -/
theorem ez_148k4 (d : Nat) (h0 : Nat) (h1 : Nat) (σ : zM) : zev (d + 1) 148 [.inr (.inr (h0, 4)), .inr (.inr (h1, 4))] σ = (fun C : zC => ((C 273 [.inl (nI 9), .inl (nI 9)] σ).bind fun x0 => (C 282 [.inr (.inr (h0, 4)), .inl 0, .inr (.inr (h1, 4)), .inl 0, .inl x0.1] x0.2.2).bind fun x1 => some (0, 0, x1.2.2) : zR)) (zev d) :=
  (zev_m (T := zT_148) rfl rfl).trans ((zrun_eq (zev d) zT_148 [] 16 _ _ _ _).trans (by rfl))

/-- X11_copyRow ([I[I)V -/
theorem ez_148k5 (d : Nat) (h0 : Nat) (h1 : Nat) (σ : zM) : zev (d + 1) 148 [.inr (.inr (h0, 5)), .inr (.inr (h1, 5))] σ = (fun C : zC => ((C 273 [.inl (nI 9), .inl (nI 9)] σ).bind fun x0 => (C 282 [.inr (.inr (h0, 5)), .inl 0, .inr (.inr (h1, 5)), .inl 0, .inl x0.1] x0.2.2).bind fun x1 => some (0, 0, x1.2.2) : zR)) (zev d) :=
  (zev_m (T := zT_148) rfl rfl).trans ((zrun_eq (zev d) zT_148 [] 16 _ _ _ _).trans (by rfl))

/-- X11_copyRow ([I[I)V -/
theorem ez_148k6 (d : Nat) (h0 : Nat) (h1 : Nat) (σ : zM) : zev (d + 1) 148 [.inr (.inr (h0, 6)), .inr (.inr (h1, 6))] σ = (fun C : zC => ((C 273 [.inl (nI 9), .inl (nI 9)] σ).bind fun x0 => (C 282 [.inr (.inr (h0, 6)), .inl 0, .inr (.inr (h1, 6)), .inl 0, .inl x0.1] x0.2.2).bind fun x1 => some (0, 0, x1.2.2) : zR)) (zev d) :=
  (zev_m (T := zT_148) rfl rfl).trans ((zrun_eq (zev d) zT_148 [] 16 _ _ _ _).trans (by rfl))

/-- X11_copyRow ([I[I)V -/
theorem ez_148k8 (d : Nat) (h0 : Nat) (h1 : Nat) (σ : zM) : zev (d + 1) 148 [.inr (.inr (h0, 8)), .inr (.inr (h1, 8))] σ = (fun C : zC => ((C 273 [.inl (nI 8), .inl (nI 8)] σ).bind fun x0 => (C 282 [.inr (.inr (h0, 8)), .inl 0, .inr (.inr (h1, 8)), .inl 0, .inl x0.1] x0.2.2).bind fun x1 => some (0, 0, x1.2.2) : zR)) (zev d) :=
  (zev_m (T := zT_148) rfl rfl).trans ((zrun_eq (zev d) zT_148 [] 16 _ _ _ _).trans (by rfl))

/-- X11_copyRow ([I[I)V -/
theorem ez_148k9 (d : Nat) (h0 : Nat) (h1 : Nat) (σ : zM) : zev (d + 1) 148 [.inr (.inr (h0, 9)), .inr (.inr (h1, 9))] σ = (fun C : zC => ((C 273 [.inl (nI 8), .inl (nI 8)] σ).bind fun x0 => (C 282 [.inr (.inr (h0, 9)), .inl 0, .inr (.inr (h1, 9)), .inl 0, .inl x0.1] x0.2.2).bind fun x1 => some (0, 0, x1.2.2) : zR)) (zev d) :=
  (zev_m (T := zT_148) rfl rfl).trans ((zrun_eq (zev d) zT_148 [] 16 _ _ _ _).trans (by rfl))

/-- X11_copyRow ([I[I)V -/
theorem ez_148k10 (d : Nat) (h0 : Nat) (h1 : Nat) (σ : zM) : zev (d + 1) 148 [.inr (.inr (h0, 10)), .inr (.inr (h1, 10))] σ = (fun C : zC => ((C 273 [.inl (nI 8), .inl (nI 8)] σ).bind fun x0 => (C 282 [.inr (.inr (h0, 10)), .inl 0, .inr (.inr (h1, 10)), .inl 0, .inl x0.1] x0.2.2).bind fun x1 => some (0, 0, x1.2.2) : zR)) (zev d) :=
  (zev_m (T := zT_148) rfl rfl).trans ((zrun_eq (zev d) zT_148 [] 16 _ _ _ _).trans (by rfl))

/-- X11_copyRow ([I[I)V -/
theorem ez_148k11 (d : Nat) (h0 : Nat) (h1 : Nat) (σ : zM) : zev (d + 1) 148 [.inr (.inr (h0, 11)), .inr (.inr (h1, 11))] σ = (fun C : zC => ((C 273 [.inl (nI 8), .inl (nI 8)] σ).bind fun x0 => (C 282 [.inr (.inr (h0, 11)), .inl 0, .inr (.inr (h1, 11)), .inl 0, .inl x0.1] x0.2.2).bind fun x1 => some (0, 0, x1.2.2) : zR)) (zev d) :=
  (zev_m (T := zT_148) rfl rfl).trans ((zrun_eq (zev d) zT_148 [] 16 _ _ _ _).trans (by rfl))

/-- X11_copyRow ([I[I)V -/
theorem ez_148k12 (d : Nat) (h0 : Nat) (h1 : Nat) (σ : zM) : zev (d + 1) 148 [.inr (.inr (h0, 12)), .inr (.inr (h1, 12))] σ = (fun C : zC => ((C 273 [.inl (nI 200), .inl (nI 200)] σ).bind fun x0 => (C 282 [.inr (.inr (h0, 12)), .inl 0, .inr (.inr (h1, 12)), .inl 0, .inl x0.1] x0.2.2).bind fun x1 => some (0, 0, x1.2.2) : zR)) (zev d) :=
  (zev_m (T := zT_148) rfl rfl).trans ((zrun_eq (zev d) zT_148 [] 16 _ _ _ _).trans (by rfl))

/-- X11_copyRow ([I[I)V -/
theorem ez_148k16 (d : Nat) (h0 : Nat) (h1 : Nat) (σ : zM) : zev (d + 1) 148 [.inr (.inr (h0, 16)), .inr (.inr (h1, 16))] σ = (fun C : zC => ((C 273 [.inl (nI 8), .inl (nI 8)] σ).bind fun x0 => (C 282 [.inr (.inr (h0, 16)), .inl 0, .inr (.inr (h1, 16)), .inl 0, .inl x0.1] x0.2.2).bind fun x1 => some (0, 0, x1.2.2) : zR)) (zev d) :=
  (zev_m (T := zT_148) rfl rfl).trans ((zrun_eq (zev d) zT_148 [] 16 _ _ _ _).trans (by rfl))

/-- X11_copyRow ([I[I)V -/
theorem ez_148k17 (d : Nat) (h0 : Nat) (h1 : Nat) (σ : zM) : zev (d + 1) 148 [.inr (.inr (h0, 17)), .inr (.inr (h1, 17))] σ = (fun C : zC => ((C 273 [.inl (nI 8), .inl (nI 8)] σ).bind fun x0 => (C 282 [.inr (.inr (h0, 17)), .inl 0, .inr (.inr (h1, 17)), .inl 0, .inl x0.1] x0.2.2).bind fun x1 => some (0, 0, x1.2.2) : zR)) (zev d) :=
  (zev_m (T := zT_148) rfl rfl).trans ((zrun_eq (zev d) zT_148 [] 16 _ _ _ _).trans (by rfl))

/-- X11_copyRow ([I[I)V -/
theorem ez_148k18 (d : Nat) (h0 : Nat) (h1 : Nat) (σ : zM) : zev (d + 1) 148 [.inr (.inr (h0, 18)), .inr (.inr (h1, 18))] σ = (fun C : zC => ((C 273 [.inl (nI 8), .inl (nI 8)] σ).bind fun x0 => (C 282 [.inr (.inr (h0, 18)), .inl 0, .inr (.inr (h1, 18)), .inl 0, .inl x0.1] x0.2.2).bind fun x1 => some (0, 0, x1.2.2) : zR)) (zev d) :=
  (zev_m (T := zT_148) rfl rfl).trans ((zrun_eq (zev d) zT_148 [] 16 _ _ _ _).trans (by rfl))

/-- X11_copyRow ([I[I)V -/
theorem ez_148k20 (d : Nat) (h0 : Nat) (h1 : Nat) (σ : zM) : zev (d + 1) 148 [.inr (.inr (h0, 20)), .inr (.inr (h1, 20))] σ = (fun C : zC => ((C 273 [.inl (nI 6), .inl (nI 6)] σ).bind fun x0 => (C 282 [.inr (.inr (h0, 20)), .inl 0, .inr (.inr (h1, 20)), .inl 0, .inl x0.1] x0.2.2).bind fun x1 => some (0, 0, x1.2.2) : zR)) (zev d) :=
  (zev_m (T := zT_148) rfl rfl).trans ((zrun_eq (zev d) zT_148 [] 16 _ _ _ _).trans (by rfl))

/-- X11_copyRow ([I[I)V -/
theorem ez_148k21 (d : Nat) (h0 : Nat) (h1 : Nat) (σ : zM) : zev (d + 1) 148 [.inr (.inr (h0, 21)), .inr (.inr (h1, 21))] σ = (fun C : zC => ((C 273 [.inl (nI 6), .inl (nI 6)] σ).bind fun x0 => (C 282 [.inr (.inr (h0, 21)), .inl 0, .inr (.inr (h1, 21)), .inl 0, .inl x0.1] x0.2.2).bind fun x1 => some (0, 0, x1.2.2) : zR)) (zev d) :=
  (zev_m (T := zT_148) rfl rfl).trans ((zrun_eq (zev d) zT_148 [] 16 _ _ _ _).trans (by rfl))
end
section
set_option maxRecDepth 20000
set_option linter.unusedVariables false
/-- X12_in (JJJ)Z -/
theorem ez_149 (d : Nat) (p0 : Int64) (p1 : Int64) (p2 : Int64) (σ : zM) : zev (d + 1) 149 [.inr (.inl p0), .inr (.inl p1), .inr (.inl p2)] σ = (fun C : zC => (if (lg_cmp p0 p1) < 0 then (zgd (zret 3 0) (some (0, 0, σ))) else (if 0 < (lg_cmp p0 p2) then (zgd (zret 3 0) (some (0, 0, σ))) else (zgd (zret 3 1) (some (1, 0, σ)))) : zR)) (zev d) :=
  (zev_m (T := zT_149) rfl rfl).trans ((zrun_eq (zev d) zT_149 [] 17 _ _ _ _).trans (by rfl))

/-- X12_isBough (I)Z -/
theorem ez_150 (d : Nat) (p0 : Int32) (σ : zM) : zev (d + 1) 150 [.inr (.inr (0, 60)), .inl p0] σ = (fun C : zC => ((C 149 [.inr (.inl (Int32.toInt64 p0)), .inr (.inl 0), .inr (.inl (Int32.toInt64 ((σ.1 0 61 0) - 1)))] σ).bind fun x0 => zgd (zret 3 x0.1) (some (x0.1, 0, x0.2.2)) : zR)) (zev d) :=
  (zev_m (T := zT_150) rfl rfl).trans ((zrun_eq (zev d) zT_150 [] 17 _ _ _ _).trans (by rfl))

/-- X12_isPerson (I)Z -/
theorem ez_151 (d : Nat) (p0 : Int32) (σ : zM) : zev (d + 1) 151 [.inr (.inr (0, 60)), .inl p0] σ = (fun C : zC => ((C 149 [.inr (.inl (Int32.toInt64 p0)), .inr (.inl 0), .inr (.inl (Int32.toInt64 ((σ.1 0 61 2) - 1)))] σ).bind fun x0 => zgd (zret 3 x0.1) (some (x0.1, 0, x0.2.2)) : zR)) (zev d) :=
  (zev_m (T := zT_151) rfl rfl).trans ((zrun_eq (zev d) zT_151 [] 17 _ _ _ _).trans (by rfl))

/-- X12_has (II)Z -/
theorem ez_152 (d : Nat) (p0 : Int32) (p1 : Int32) (σ : zM) : zev (d + 1) 152 [.inl p0, .inl p1] σ = (fun C : zC => (if ((p0 >>> (p1 &&& 31)) &&& 1) = 1 then (zgd (zret 3 1) (some (1, 0, σ))) else (zgd (zret 3 0) (some (0, 0, σ))) : zR)) (zev d) :=
  (zev_m (T := zT_152) rfl rfl).trans ((zrun_eq (zev d) zT_152 [] 16 _ _ _ _).trans (by rfl))

/-- X12_puts ()V -/
theorem ez_153 (d : Nat)  (σ : zM) : zev (d + 1) 153 [.inr (.inr (0, 60))] σ = (fun C : zC => (zrun C zT_153 2 [some (.inr (.inr (0, 60))), some (.inl 0)] [] σ : zR)) (zev d) :=
  (zev_m (T := zT_153) rfl rfl).trans ((zrun_eq (zev d) zT_153 [2] 21 _ _ _ _).trans (by rfl))
theorem ez_153_2 (C : zC) (a1 : Int32) (σ : zM) : zrun C zT_153 2 [some (.inr (.inr (0, 60))), some (.inl a1)] [] σ = if a1 < 320 then (zgd (zin a1 320) (zgd (zin a1 320) (zrun C zT_153 2 [some (.inr (.inr (0, 60))), some (.inl (a1 + 1))] [] (zwI σ 0 63 (Int32.toNatClampNeg a1) (σ.1 0 61 (Int32.toNatClampNeg a1)))))) else (some (0, 0, σ)) :=
  (zrun_eq C zT_153 [2] 21 _ _ _ _).trans (by rfl)

/-- X12_putsBack ()V -/
theorem ez_154 (d : Nat)  (σ : zM) : zev (d + 1) 154 [.inr (.inr (0, 60))] σ = (fun C : zC => (zrun C zT_154 2 [some (.inr (.inr (0, 60))), some (.inl 0)] [] σ : zR)) (zev d) :=
  (zev_m (T := zT_154) rfl rfl).trans ((zrun_eq (zev d) zT_154 [2] 21 _ _ _ _).trans (by rfl))
theorem ez_154_2 (C : zC) (a1 : Int32) (σ : zM) : zrun C zT_154 2 [some (.inr (.inr (0, 60))), some (.inl a1)] [] σ = if a1 < 320 then (zgd (zin a1 320) (zgd (zin a1 320) (zrun C zT_154 2 [some (.inr (.inr (0, 60))), some (.inl (a1 + 1))] [] (zwI σ 0 61 (Int32.toNatClampNeg a1) (σ.1 0 63 (Int32.toNatClampNeg a1)))))) else (some (0, 0, σ)) :=
  (zrun_eq C zT_154 [2] 21 _ _ _ _).trans (by rfl)

/-- X12_at (II)I -/
theorem ez_155 (d : Nat) (p0 : Int32) (p1 : Int32) (σ : zM) : zev (d + 1) 155 [.inl p0, .inl p1] σ = (fun C : zC => (some (((7 + (5 * p0)) + p1), 0, σ) : zR)) (zev d) :=
  (zev_m (T := zT_155) rfl rfl).trans ((zrun_eq (zev d) zT_155 [] 13 _ _ _ _).trans (by rfl))

/-- X12_its (II)I -/
theorem ez_156 (d : Nat) (p0 : Int32) (p1 : Int32) (σ : zM) : zev (d + 1) 156 [.inr (.inr (0, 60)), .inl p0, .inl p1] σ = (fun C : zC => ((C 155 [.inl p0, .inl p1] σ).bind fun x0 => zgd (zin x0.1 320) (some ((x0.2.2.1 0 61 (Int32.toNatClampNeg x0.1)), 0, x0.2.2)) : zR)) (zev d) :=
  (zev_m (T := zT_156) rfl rfl).trans ((zrun_eq (zev d) zT_156 [] 12 _ _ _ _).trans (by rfl))

/-- X12_isBroken (I)Z -/
theorem ez_157 (d : Nat) (p0 : Int32) (σ : zM) : zev (d + 1) 157 [.inr (.inr (0, 60)), .inl p0] σ = (fun C : zC => ((C 156 [.inr (.inr (0, 60)), .inl p0, .inl 4] σ).bind fun x0 => if x0.1 = 1 then (zgd (zret 3 1) (some (1, 0, x0.2.2))) else (zgd (zret 3 0) (some (0, 0, x0.2.2))) : zR)) (zev d) :=
  (zev_m (T := zT_157) rfl rfl).trans ((zrun_eq (zev d) zT_157 [] 15 _ _ _ _).trans (by rfl))

/-- X12_below (I)I -/
theorem ez_158 (d : Nat) (p0 : Int32) (σ : zM) : zev (d + 1) 158 [.inr (.inr (0, 60)), .inl p0] σ = (fun C : zC => ((C 156 [.inr (.inr (0, 60)), .inl p0, .inl 1] σ).bind fun x0 => some ((x0.1 - 1), 0, x0.2.2) : zR)) (zev d) :=
  (zev_m (T := zT_158) rfl rfl).trans ((zrun_eq (zev d) zT_158 [] 12 _ _ _ _).trans (by rfl))

/-- X12_isPart (II)Z -/
theorem ez_159 (d : Nat) (p0 : Int32) (p1 : Int32) (σ : zM) : zev (d + 1) 159 [.inl p0, .inl p1] σ = (fun C : zC => (if p0 = 2 then ((C 149 [.inr (.inl (Int32.toInt64 p1)), .inr (.inl 1), .inr (.inl 9)] σ).bind fun x0 => if x0.1 = 0 then (if p0 = 3 then ((C 149 [.inr (.inl (Int32.toInt64 p1)), .inr (.inl 1), .inr (.inl 999)] x0.2.2).bind fun x1 => if x1.1 = 0 then (zgd (zret 3 0) (some (0, 0, x1.2.2))) else (zgd (zret 3 1) (some (1, 0, x1.2.2)))) else (zgd (zret 3 0) (some (0, 0, x0.2.2)))) else (zgd (zret 3 1) (some (1, 0, x0.2.2)))) else (if p0 = 3 then ((C 149 [.inr (.inl (Int32.toInt64 p1)), .inr (.inl 1), .inr (.inl 999)] σ).bind fun x2 => if x2.1 = 0 then (zgd (zret 3 0) (some (0, 0, x2.2.2))) else (zgd (zret 3 1) (some (1, 0, x2.2.2)))) else (zgd (zret 3 0) (some (0, 0, σ)))) : zR)) (zev d) :=
  (zev_m (T := zT_159) rfl rfl).trans ((zrun_eq (zev d) zT_159 [] 27 _ _ _ _).trans (by rfl))

/-- X12_bough (IIII)I -/
theorem ez_160 (d : Nat) (p0 : Int32) (p1 : Int32) (p2 : Int32) (p3 : Int32) (σ : zM) : zev (d + 1) 160 [.inr (.inr (0, 60)), .inl p0, .inl p1, .inl p2, .inl p3] σ = (fun C : zC => ((C 149 [.inr (.inl (Int32.toInt64 p0)), .inr (.inl 1), .inr (.inl 5)] σ).bind fun x0 => if x0.1 = 0 then (some ((-1), 0, x0.2.2)) else (if p1 = (-1) then (zrun C zT_160 25 [some (.inr (.inr (0, 60))), some (.inl p0), some (.inl p1), some (.inl p2), some (.inl p3), none] [] x0.2.2) else ((C 150 [.inr (.inr (0, 60)), .inl p1] x0.2.2).bind fun x1 => if x1.1 = 0 then (some ((-1), 0, x1.2.2)) else (zrun C zT_160 25 [some (.inr (.inr (0, 60))), some (.inl p0), some (.inl p1), some (.inl p2), some (.inl p3), none] [] x1.2.2))) : zR)) (zev d) :=
  (zev_m (T := zT_160) rfl rfl).trans ((zrun_eq (zev d) zT_160 [25, 73] 96 _ _ _ _).trans (by rfl))
theorem ez_160_25 (C : zC) (a1 : Int32) (a2 : Int32) (a3 : Int32) (a4 : Int32) (d5 : Option zV) (σ : zM) : zrun C zT_160 25 [some (.inr (.inr (0, 60))), some (.inl a1), some (.inl a2), some (.inl a3), some (.inl a4), d5] [] σ = (C 159 [.inl 2, .inl a3] σ).bind fun x0 => if x0.1 = 0 then (some ((-1), 0, x0.2.2)) else ((C 159 [.inl 3, .inl a4] x0.2.2).bind fun x1 => if x1.1 = 0 then (some ((-1), 0, x1.2.2)) else (if (x1.2.2.1 0 61 0) = 9 then (some ((-2), 0, x1.2.2)) else (if a2 < 0 then (zrun C zT_160 73 [some (.inr (.inr (0, 60))), some (.inl a1), some (.inl a2), some (.inl a3), some (.inl a4), none] [] x1.2.2) else ((C 157 [.inr (.inr (0, 60)), .inl a2] x1.2.2).bind fun x2 => if x2.1 = 0 then (zrun C zT_160 73 [some (.inr (.inr (0, 60))), some (.inl a1), some (.inl a2), some (.inl a3), some (.inl a4), none] [] x2.2.2) else (some ((-4), 0, x2.2.2)))))) :=
  (zrun_eq C zT_160 [25, 73] 96 _ _ _ _).trans (by rfl)
theorem ez_160_73 (C : zC) (a1 : Int32) (a2 : Int32) (a3 : Int32) (a4 : Int32) (d5 : Option zV) (σ : zM) : zrun C zT_160 73 [some (.inr (.inr (0, 60))), some (.inl a1), some (.inl a2), some (.inl a3), some (.inl a4), d5] [] σ = (C 155 [.inl (σ.1 0 61 0), .inl 0] σ).bind fun x0 => zgd (zin x0.1 320) ((C 155 [.inl (σ.1 0 61 0), .inl 1] (zwI x0.2.2 0 61 (Int32.toNatClampNeg x0.1) a1)).bind fun x1 => zgd (zin x1.1 320) ((C 155 [.inl (σ.1 0 61 0), .inl 2] (zwI x1.2.2 0 61 (Int32.toNatClampNeg x1.1) (a2 + 1))).bind fun x2 => zgd (zin x2.1 320) ((C 155 [.inl (σ.1 0 61 0), .inl 3] (zwI x2.2.2 0 61 (Int32.toNatClampNeg x2.1) a3)).bind fun x3 => zgd (zin x3.1 320) ((C 155 [.inl (σ.1 0 61 0), .inl 4] (zwI x3.2.2 0 61 (Int32.toNatClampNeg x3.1) a4)).bind fun x4 => zgd (zin x4.1 320) (some ((σ.1 0 61 0), 0, zwI (zwI x4.2.2 0 61 (Int32.toNatClampNeg x4.1) 0) 0 61 0 (((zwI x4.2.2 0 61 (Int32.toNatClampNeg x4.1) 0).1 0 61 0) + 1))))))) :=
  (zrun_eq C zT_160 [25, 73] 96 _ _ _ _).trans (by rfl)

/-- X12_isUnder (II)Z -/
theorem ez_161 (d : Nat) (p0 : Int32) (p1 : Int32) (σ : zM) : zev (d + 1) 161 [.inl p0, .inl p1] σ = (fun C : zC => (if p1 = 0 then (zgd (zret 3 1) (some (1, 0, σ))) else (if p0 = p1 then (zgd (zret 3 1) (some (1, 0, σ))) else (if p1 = 2 then (if p0 = 3 then (zgd (zret 3 1) (some (1, 0, σ))) else (if p1 = 4 then (if p0 = 5 then (zgd (zret 3 1) (some (1, 0, σ))) else (zgd (zret 3 0) (some (0, 0, σ)))) else (zgd (zret 3 0) (some (0, 0, σ))))) else (if p1 = 4 then (if p0 = 5 then (zgd (zret 3 1) (some (1, 0, σ))) else (zgd (zret 3 0) (some (0, 0, σ)))) else (zgd (zret 3 0) (some (0, 0, σ)))))) : zR)) (zev d) :=
  (zev_m (T := zT_161) rfl rfl).trans ((zrun_eq (zev d) zT_161 [] 26 _ _ _ _).trans (by rfl))

/-- X12_fact (II)I -/
theorem ez_162 (d : Nat) (p0 : Int32) (p1 : Int32) (σ : zM) : zev (d + 1) 162 [.inr (.inr (0, 60)), .inl p0, .inl p1] σ = (fun C : zC => (if p0 = (-5) then (some (p1, 0, σ)) else if p0 = (-4) then ((C 156 [.inr (.inr (0, 60)), .inl p1, .inl 3] σ).bind fun x0 => some (x0.1, 0, x0.2.2)) else if p0 = (-3) then ((C 156 [.inr (.inr (0, 60)), .inl p1, .inl 2] σ).bind fun x1 => some (x1.1, 0, x1.2.2)) else if p0 = (-2) then (some ((σ.1 0 61 5), 0, σ)) else if p0 = (-1) then (some ((σ.1 0 61 4), 0, σ)) else (some (p0, 0, σ)) : zR)) (zev d) :=
  (zev_m (T := zT_162) rfl rfl).trans ((zrun_eq (zev d) zT_162 [] 31 _ _ _ _).trans (by rfl))

/-- X12_isHolding (III)Z -/
theorem ez_163 (d : Nat) (p0 : Int32) (p1 : Int32) (p2 : Int32) (σ : zM) : zev (d + 1) 163 [.inl p0, .inl p1, .inl p2] σ = (fun C : zC => (if p0 = (-21) then (if p1 = 1 then (if p2 = 1 then (zgd (zret 3 1) (some (1, 0, σ))) else (zgd (zret 3 0) (some (0, 0, σ)))) else (zgd (zret 3 0) (some (0, 0, σ)))) else if p0 = (-13) then (if p2 < p1 then (zgd (zret 3 1) (some (1, 0, σ))) else (zgd (zret 3 0) (some (0, 0, σ)))) else if p0 = (-12) then (if p1 = p2 then (zgd (zret 3 1) (some (1, 0, σ))) else (zgd (zret 3 0) (some (0, 0, σ)))) else if p0 = (-11) then (if p1 < p2 then (zgd (zret 3 1) (some (1, 0, σ))) else (zgd (zret 3 0) (some (0, 0, σ)))) else (if p1 = 1 then (zgd (zret 3 1) (some (1, 0, σ))) else (if p2 = 1 then (zgd (zret 3 1) (some (1, 0, σ))) else (zgd (zret 3 0) (some (0, 0, σ))))) : zR)) (zev d) :=
  (zev_m (T := zT_163) rfl rfl).trans ((zrun_eq (zev d) zT_163 [] 48 _ _ _ _).trans (by rfl))

/-- X12_isSo (III)Z -/
theorem ez_164 (d : Nat) (p0 : Int32) (p1 : Int32) (p2 : Int32) (σ : zM) : zev (d + 1) 164 [.inr (.inr (0, 60)), .inl p0, .inl p1, .inl p2] σ = (fun C : zC => (zrun C zT_164 6 [some (.inr (.inr (0, 60))), some (.inl p0), some (.inl p1), some (.inl p2), some (.inl 0), some (.inl p0), none] [] σ : zR)) (zev d) :=
  (zev_m (T := zT_164) rfl rfl).trans ((zrun_eq (zev d) zT_164 [6] 87 _ _ _ _).trans (by rfl))
theorem ez_164_6 (C : zC) (d1 : Option zV) (a2 : Int32) (a3 : Int32) (a4 : Int32) (a5 : Int32) (d6 : Option zV) (σ : zM) : zrun C zT_164 6 [some (.inr (.inr (0, 60))), d1, some (.inl a2), some (.inl a3), some (.inl a4), some (.inl a5), d6] [] σ = if a5 < a2 then (zgd (zin (120 + a5) 320) (if (-10) < (σ.1 0 61 (Int32.toNatClampNeg (120 + a5))) then ((C 162 [.inr (.inr (0, 60)), .inl (σ.1 0 61 (Int32.toNatClampNeg (120 + a5))), .inl a3] σ).bind fun x0 => zgd (zin a4 200) (zrun C zT_164 6 [some (.inr (.inr (0, 60))), none, some (.inl a2), some (.inl a3), some (.inl (a4 + 1)), some (.inl (a5 + 1)), some (.inl (σ.1 0 61 (Int32.toNatClampNeg (120 + a5))))] [] (zwI x0.2.2 0 64 (Int32.toNatClampNeg a4) x0.1))) else (if (σ.1 0 61 (Int32.toNatClampNeg (120 + a5))) = (-20) then (zgd (zin (a4 - 1) 200) (zgd (zin (a4 - 1) 200) (zrun C zT_164 6 [some (.inr (.inr (0, 60))), none, some (.inl a2), some (.inl a3), some (.inl a4), some (.inl (a5 + 1)), some (.inl (σ.1 0 61 (Int32.toNatClampNeg (120 + a5))))] [] (zwI σ 0 64 (Int32.toNatClampNeg (a4 - 1)) (1 - (σ.1 0 64 (Int32.toNatClampNeg (a4 - 1)))))))) else (zgd (zin ((a4 + (-1)) - 1) 200) (zgd (zin (a4 + (-1)) 200) ((C 163 [.inl (σ.1 0 61 (Int32.toNatClampNeg (120 + a5))), .inl (σ.1 0 64 (Int32.toNatClampNeg ((a4 + (-1)) - 1))), .inl (σ.1 0 64 (Int32.toNatClampNeg (a4 + (-1))))] σ).bind fun x1 => if x1.1 = 0 then (zgd (zin ((a4 + (-1)) - 1) 200) (zrun C zT_164 6 [some (.inr (.inr (0, 60))), none, some (.inl a2), some (.inl a3), some (.inl (a4 + (-1))), some (.inl (a5 + 1)), some (.inl (σ.1 0 61 (Int32.toNatClampNeg (120 + a5))))] [] (zwI x1.2.2 0 64 (Int32.toNatClampNeg ((a4 + (-1)) - 1)) 0))) else (zgd (zin ((a4 + (-1)) - 1) 200) (zrun C zT_164 6 [some (.inr (.inr (0, 60))), none, some (.inl a2), some (.inl a3), some (.inl (a4 + (-1))), some (.inl (a5 + 1)), some (.inl (σ.1 0 61 (Int32.toNatClampNeg (120 + a5))))] [] (zwI x1.2.2 0 64 (Int32.toNatClampNeg ((a4 + (-1)) - 1)) 1))))))))) else (if a4 = 0 then (zgd (zret 3 1) (some (1, 0, σ))) else (if (σ.1 0 64 0) = 1 then (zgd (zret 3 1) (some (1, 0, σ))) else (zgd (zret 3 0) (some (0, 0, σ))))) :=
  (zrun_eq C zT_164 [6] 87 _ _ _ _).trans (by rfl)

/-- X12_holdsNow (I)I -/
theorem ez_165 (d : Nat) (p0 : Int32) (σ : zM) : zev (d + 1) 165 [.inr (.inr (0, 60)), .inl p0] σ = (fun C : zC => ((C 156 [.inr (.inr (0, 60)), .inl p0, .inl 0] σ).bind fun x0 => zrun C zT_165 15 [some (.inr (.inr (0, 60))), some (.inl p0), some (.inl x0.1), some (.inl (-1)), some (.inl 0), some (.inl 0), none, none, none] [] x0.2.2 : zR)) (zev d) :=
  (zev_m (T := zT_165) rfl rfl).trans ((zrun_eq (zev d) zT_165 [15, 98, 114, 132, 181, 194] 166 _ _ _ _).trans (by rfl))
theorem ez_165_15 (C : zC) (a1 : Int32) (a2 : Int32) (a3 : Int32) (a4 : Int32) (a5 : Int32) (d6 : Option zV) (d7 : Option zV) (d8 : Option zV) (σ : zM) : zrun C zT_165 15 [some (.inr (.inr (0, 60))), some (.inl a1), some (.inl a2), some (.inl a3), some (.inl a4), some (.inl a5), d6, d7, d8] [] σ = if a5 < (σ.1 0 61 1) then (if a3 < 0 then (zgd (zin ((88 + (4 * a5)) + 0) 320) ((C 161 [.inl a2, .inl (σ.1 0 61 (Int32.toNatClampNeg ((88 + (4 * a5)) + 0)))] σ).bind fun x0 => if x0.1 = 0 then (zgd (zin ((88 + (4 * a5)) + 3) 320) (zrun C zT_165 15 [some (.inr (.inr (0, 60))), some (.inl a1), some (.inl a2), some (.inl (-1)), some (.inl (x0.2.2.1 0 61 (Int32.toNatClampNeg ((88 + (4 * a5)) + 3)))), some (.inl (a5 + 1)), some (.inl (88 + (4 * a5))), none, none] [] x0.2.2)) else (zgd (zin ((88 + (4 * a5)) + 3) 320) ((C 164 [.inr (.inr (0, 60)), .inl a4, .inl (x0.2.2.1 0 61 (Int32.toNatClampNeg ((88 + (4 * a5)) + 3))), .inl a1] x0.2.2).bind fun x1 => if x1.1 = 0 then (zgd (zin ((88 + (4 * a5)) + 3) 320) (zrun C zT_165 15 [some (.inr (.inr (0, 60))), some (.inl a1), some (.inl a2), some (.inl (-1)), some (.inl (x1.2.2.1 0 61 (Int32.toNatClampNeg ((88 + (4 * a5)) + 3)))), some (.inl (a5 + 1)), some (.inl (88 + (4 * a5))), none, none] [] x1.2.2)) else (zgd (zin ((88 + (4 * a5)) + 3) 320) (zrun C zT_165 15 [some (.inr (.inr (0, 60))), some (.inl a1), some (.inl a2), some (.inl (88 + (4 * a5))), some (.inl (x1.2.2.1 0 61 (Int32.toNatClampNeg ((88 + (4 * a5)) + 3)))), some (.inl (a5 + 1)), some (.inl (88 + (4 * a5))), none, none] [] x1.2.2)))))) else (zrun C zT_165 98 [some (.inr (.inr (0, 60))), some (.inl a1), some (.inl a2), some (.inl a3), some (.inl a4), some (.inl a5), none, none, none] [] σ)) else (zrun C zT_165 98 [some (.inr (.inr (0, 60))), some (.inl a1), some (.inl a2), some (.inl a3), some (.inl a4), some (.inl a5), none, none, none] [] σ) :=
  (zrun_eq C zT_165 [15, 98, 114, 132, 181, 194] 166 _ _ _ _).trans (by rfl)
theorem ez_165_98 (C : zC) (a1 : Int32) (a2 : Int32) (a3 : Int32) (d4 : Option zV) (d5 : Option zV) (d6 : Option zV) (d7 : Option zV) (d8 : Option zV) (σ : zM) : zrun C zT_165 98 [some (.inr (.inr (0, 60))), some (.inl a1), some (.inl a2), some (.inl a3), d4, d5, d6, d7, d8] [] σ = if a3 < 0 then (zrun C zT_165 114 [some (.inr (.inr (0, 60))), some (.inl a1), some (.inl a2), some (.inl a3), none, none, none, none, none] [.inl (-1)] σ) else (zgd (zin (a3 + 1) 320) (zrun C zT_165 114 [some (.inr (.inr (0, 60))), some (.inl a1), some (.inl a2), some (.inl a3), none, none, none, none, none] [.inl (σ.1 0 61 (Int32.toNatClampNeg (a3 + 1)))] σ)) :=
  (zrun_eq C zT_165 [15, 98, 114, 132, 181, 194] 166 _ _ _ _).trans (by rfl)
theorem ez_165_114 (C : zC) (a1 : Int32) (a2 : Int32) (a3 : Int32) (d4 : Option zV) (d5 : Option zV) (d6 : Option zV) (d7 : Option zV) (d8 : Option zV) (s0 : Int32) (σ : zM) : zrun C zT_165 114 [some (.inr (.inr (0, 60))), some (.inl a1), some (.inl a2), some (.inl a3), d4, d5, d6, d7, d8] [.inl s0] σ = if a3 < 0 then (zrun C zT_165 132 [some (.inr (.inr (0, 60))), some (.inl a1), some (.inl a2), some (.inl a3), none, some (.inl s0), none, none, none] [.inl 0] σ) else (zgd (zin (a3 + 2) 320) (zrun C zT_165 132 [some (.inr (.inr (0, 60))), some (.inl a1), some (.inl a2), some (.inl a3), none, some (.inl s0), none, none, none] [.inl (σ.1 0 61 (Int32.toNatClampNeg (a3 + 2)))] σ)) :=
  (zrun_eq C zT_165 [15, 98, 114, 132, 181, 194] 166 _ _ _ _).trans (by rfl)
theorem ez_165_132 (C : zC) (a1 : Int32) (a2 : Int32) (d3 : Option zV) (d4 : Option zV) (a5 : Int32) (d6 : Option zV) (d7 : Option zV) (d8 : Option zV) (s0 : Int32) (σ : zM) : zrun C zT_165 132 [some (.inr (.inr (0, 60))), some (.inl a1), some (.inl a2), d3, d4, some (.inl a5), d6, d7, d8] [.inl s0] σ = (C 156 [.inr (.inr (0, 60)), .inl a1, .inl 3] σ).bind fun x0 => if a5 = 0 then (zrun C zT_165 181 [some (.inr (.inr (0, 60))), some (.inl a1), some (.inl a2), none, none, some (.inl a5), some (.inl s0), some (.inl x0.1), none] [.inl (x0.1 + s0)] x0.2.2) else (if a5 = 1 then (zrun C zT_165 181 [some (.inr (.inr (0, 60))), some (.inl a1), some (.inl a2), none, none, some (.inl a5), some (.inl s0), some (.inl x0.1), none] [.inl (x0.1 - s0)] x0.2.2) else (if a5 = 2 then (zrun C zT_165 181 [some (.inr (.inr (0, 60))), some (.inl a1), some (.inl a2), none, none, some (.inl a5), some (.inl s0), some (.inl x0.1), none] [.inl 0] x0.2.2) else (zrun C zT_165 181 [some (.inr (.inr (0, 60))), some (.inl a1), some (.inl a2), none, none, some (.inl a5), some (.inl s0), some (.inl x0.1), none] [.inl x0.1] x0.2.2))) :=
  (zrun_eq C zT_165 [15, 98, 114, 132, 181, 194] 166 _ _ _ _).trans (by rfl)
theorem ez_165_181 (C : zC) (a1 : Int32) (a2 : Int32) (d3 : Option zV) (d4 : Option zV) (d5 : Option zV) (d6 : Option zV) (d7 : Option zV) (d8 : Option zV) (s0 : Int32) (σ : zM) : zrun C zT_165 181 [some (.inr (.inr (0, 60))), some (.inl a1), some (.inl a2), d3, d4, d5, d6, d7, d8] [.inl s0] σ = if s0 < 0 then (zrun C zT_165 194 [some (.inr (.inr (0, 60))), some (.inl a1), some (.inl a2), none, none, none, none, some (.inl s0), none] [.inl 0] σ) else (zrun C zT_165 194 [some (.inr (.inr (0, 60))), some (.inl a1), some (.inl a2), none, none, none, none, some (.inl s0), none] [.inl s0] σ) :=
  (zrun_eq C zT_165 [15, 98, 114, 132, 181, 194] 166 _ _ _ _).trans (by rfl)
theorem ez_165_194 (C : zC) (a1 : Int32) (a2 : Int32) (d3 : Option zV) (d4 : Option zV) (d5 : Option zV) (d6 : Option zV) (d7 : Option zV) (d8 : Option zV) (s0 : Int32) (σ : zM) : zrun C zT_165 194 [some (.inr (.inr (0, 60))), some (.inl a1), some (.inl a2), d3, d4, d5, d6, d7, d8] [.inl s0] σ = (C 156 [.inr (.inr (0, 60)), .inl a1, .inl 2] σ).bind fun x0 => if a2 = 1 then (some ((s0 + (10 * (x0.2.2.1 0 61 4))), 0, x0.2.2)) else (if a2 = 2 then (some ((s0 / 2), 0, x0.2.2)) else (if a2 = 3 then (if ((s0 / 2) - x0.1) < 0 then (some (0, 0, x0.2.2)) else (some (((s0 / 2) - x0.1), 0, x0.2.2))) else (if a2 = 4 then (some ((s0 + 50), 0, x0.2.2)) else (some ((2 * (s0 + 50)), 0, x0.2.2))))) :=
  (zrun_eq C zT_165 [15, 98, 114, 132, 181, 194] 166 _ _ _ _).trans (by rfl)

/-- X12_findHolds ()V -/
theorem ez_166 (d : Nat)  (σ : zM) : zev (d + 1) 166 [.inr (.inr (0, 60))] σ = (fun C : zC => (zrun C zT_166 2 [some (.inr (.inr (0, 60))), some (.inl 0)] [] σ : zR)) (zev d) :=
  (zev_m (T := zT_166) rfl rfl).trans ((zrun_eq (zev d) zT_166 [2] 23 _ _ _ _).trans (by rfl))
theorem ez_166_2 (C : zC) (a1 : Int32) (σ : zM) : zrun C zT_166 2 [some (.inr (.inr (0, 60))), some (.inl a1)] [] σ = if a1 < (σ.1 0 61 0) then ((C 165 [.inr (.inr (0, 60)), .inl a1] σ).bind fun x0 => zgd (zin a1 9) (zrun C zT_166 2 [some (.inr (.inr (0, 60))), some (.inl (a1 + 1))] [] (zwI x0.2.2 0 65 (Int32.toNatClampNeg a1) x0.1))) else (some (0, 0, σ)) :=
  (zrun_eq C zT_166 [2] 23 _ _ _ _).trans (by rfl)

/-- X12_loads (II)V -/
theorem ez_167 (d : Nat) (p0 : Int32) (p1 : Int32) (σ : zM) : zev (d + 1) 167 [.inr (.inr (0, 60)), .inl p0, .inl p1] σ = (fun C : zC => (zrun C zT_167 2 [some (.inr (.inr (0, 60))), some (.inl p0), some (.inl p1), some (.inl p0)] [] σ : zR)) (zev d) :=
  (zev_m (T := zT_167) rfl rfl).trans ((zrun_eq (zev d) zT_167 [2] 23 _ _ _ _).trans (by rfl))
theorem ez_167_2 (C : zC) (d1 : Option zV) (a2 : Int32) (a3 : Int32) (σ : zM) : zrun C zT_167 2 [some (.inr (.inr (0, 60))), d1, some (.inl a2), some (.inl a3)] [] σ = if a3 < 0 then (some (0, 0, σ)) else (zgd (zin a3 9) (zgd (zin a3 9) ((C 158 [.inr (.inr (0, 60)), .inl a3] (zwI σ 0 66 (Int32.toNatClampNeg a3) ((σ.1 0 66 (Int32.toNatClampNeg a3)) + a2))).bind fun x0 => zrun C zT_167 2 [some (.inr (.inr (0, 60))), none, some (.inl a2), some (.inl x0.1)] [] x0.2.2))) :=
  (zrun_eq C zT_167 [2] 23 _ _ _ _).trans (by rfl)

/-- X12_findBears ()V -/
theorem ez_168 (d : Nat)  (σ : zM) : zev (d + 1) 168 [.inr (.inr (0, 60))] σ = (fun C : zC => (zrun C zT_168 2 [some (.inr (.inr (0, 60))), some (.inl 0)] [] σ : zR)) (zev d) :=
  (zev_m (T := zT_168) rfl rfl).trans ((zrun_eq (zev d) zT_168 [2, 39] 48 _ _ _ _).trans (by rfl))
theorem ez_168_2 (C : zC) (a1 : Int32) (σ : zM) : zrun C zT_168 2 [some (.inr (.inr (0, 60))), some (.inl a1)] [] σ = if a1 < (σ.1 0 61 0) then ((C 156 [.inr (.inr (0, 60)), .inl a1, .inl 2] σ).bind fun x0 => zgd (zin a1 9) (zrun C zT_168 2 [some (.inr (.inr (0, 60))), some (.inl (a1 + 1))] [] (zwI x0.2.2 0 66 (Int32.toNatClampNeg a1) ((σ.1 0 61 5) * x0.1)))) else (zrun C zT_168 39 [some (.inr (.inr (0, 60))), some (.inl 0)] [] σ) :=
  (zrun_eq C zT_168 [2, 39] 48 _ _ _ _).trans (by rfl)
theorem ez_168_39 (C : zC) (a1 : Int32) (σ : zM) : zrun C zT_168 39 [some (.inr (.inr (0, 60))), some (.inl a1)] [] σ = if a1 < (σ.1 0 61 2) then ((C 179 [.inr (.inr (0, 60)), .inl a1] σ).bind fun x0 => (C 178 [.inr (.inr (0, 60)), .inl a1, .inl 0] x0.2.2).bind fun x1 => (C 167 [.inr (.inr (0, 60)), .inl x0.1, .inl x1.1] x1.2.2).bind fun x2 => zrun C zT_168 39 [some (.inr (.inr (0, 60))), some (.inl (a1 + 1))] [] x2.2.2) else (some (0, 0, σ)) :=
  (zrun_eq C zT_168 [2, 39] 48 _ _ _ _).trans (by rfl)

/-- X12_isCracking (I)Z -/
theorem ez_169 (d : Nat) (p0 : Int32) (σ : zM) : zev (d + 1) 169 [.inr (.inr (0, 60)), .inl p0] σ = (fun C : zC => ((C 157 [.inr (.inr (0, 60)), .inl p0] σ).bind fun x0 => if x0.1 = 0 then (zgd (zin p0 9) (zgd (zin p0 9) (if (x0.2.2.1 0 65 (Int32.toNatClampNeg p0)) < (x0.2.2.1 0 66 (Int32.toNatClampNeg p0)) then (zgd (zret 3 1) (some (1, 0, x0.2.2))) else (zgd (zret 3 0) (some (0, 0, x0.2.2)))))) else (zgd (zret 3 0) (some (0, 0, x0.2.2))) : zR)) (zev d) :=
  (zev_m (T := zT_169) rfl rfl).trans ((zrun_eq (zev d) zT_169 [] 22 _ _ _ _).trans (by rfl))

/-- X12_crackSet ()I -/
theorem ez_170 (d : Nat)  (σ : zM) : zev (d + 1) 170 [.inr (.inr (0, 60))] σ = (fun C : zC => ((C 168 [.inr (.inr (0, 60))] σ).bind fun x0 => zrun C zT_170 8 [some (.inr (.inr (0, 60))), some (.inl 0), some (.inl 0)] [] x0.2.2 : zR)) (zev d) :=
  (zev_m (T := zT_170) rfl rfl).trans ((zrun_eq (zev d) zT_170 [8] 33 _ _ _ _).trans (by rfl))
theorem ez_170_8 (C : zC) (a1 : Int32) (a2 : Int32) (σ : zM) : zrun C zT_170 8 [some (.inr (.inr (0, 60))), some (.inl a1), some (.inl a2)] [] σ = if a2 < (σ.1 0 61 0) then ((C 169 [.inr (.inr (0, 60)), .inl a2] σ).bind fun x0 => if x0.1 = 0 then (zrun C zT_170 8 [some (.inr (.inr (0, 60))), some (.inl (a1 ||| 0)), some (.inl (a2 + 1))] [] x0.2.2) else (zrun C zT_170 8 [some (.inr (.inr (0, 60))), some (.inl (a1 ||| (1 <<< (a2 &&& 31)))), some (.inl (a2 + 1))] [] x0.2.2)) else (some (a1, 0, σ)) :=
  (zrun_eq C zT_170 [8] 33 _ _ _ _).trans (by rfl)

/-- X12_isSafe ()Z -/
theorem ez_171 (d : Nat)  (σ : zM) : zev (d + 1) 171 [.inr (.inr (0, 60))] σ = (fun C : zC => ((C 170 [.inr (.inr (0, 60))] σ).bind fun x0 => if x0.1 = 0 then (zgd (zret 3 1) (some (1, 0, x0.2.2))) else (zgd (zret 3 0) (some (0, 0, x0.2.2))) : zR)) (zev d) :=
  (zev_m (T := zT_171) rfl rfl).trans ((zrun_eq (zev d) zT_171 [] 12 _ _ _ _).trans (by rfl))

/-- X12_findAll ()V -/
theorem ez_172 (d : Nat)  (σ : zM) : zev (d + 1) 172 [.inr (.inr (0, 60))] σ = (fun C : zC => ((C 166 [.inr (.inr (0, 60))] σ).bind fun x0 => (C 168 [.inr (.inr (0, 60))] x0.2.2).bind fun x1 => some (0, 0, x1.2.2) : zR)) (zev d) :=
  (zev_m (T := zT_172) rfl rfl).trans ((zrun_eq (zev d) zT_172 [] 10 _ _ _ _).trans (by rfl))

/-- X12_boughOf (II)I -/
theorem ez_173 (d : Nat) (p0 : Int32) (p1 : Int32) (σ : zM) : zev (d + 1) 173 [.inr (.inr (0, 60)), .inl p0, .inl p1] σ = (fun C : zC => ((C 150 [.inr (.inr (0, 60)), .inl p0] σ).bind fun x0 => if x0.1 = 0 then (some ((-1), 0, x0.2.2)) else ((C 149 [.inr (.inl (Int32.toInt64 p1)), .inr (.inl 0), .inr (.inl 6)] x0.2.2).bind fun x1 => if x1.1 = 0 then (some ((-1), 0, x1.2.2)) else ((C 172 [.inr (.inr (0, 60))] x1.2.2).bind fun x2 => if p1 = 1 then ((C 158 [.inr (.inr (0, 60)), .inl p0] x2.2.2).bind fun x3 => if x3.1 < 0 then (some ((-9), 0, x3.2.2)) else ((C 158 [.inr (.inr (0, 60)), .inl p0] x3.2.2).bind fun x4 => some (x4.1, 0, x4.2.2))) else if p1 = 2 then ((C 156 [.inr (.inr (0, 60)), .inl p0, .inl p1] x2.2.2).bind fun x5 => some (x5.1, 0, x5.2.2)) else if p1 = 3 then ((C 156 [.inr (.inr (0, 60)), .inl p0, .inl p1] x2.2.2).bind fun x6 => some (x6.1, 0, x6.2.2)) else if p1 = 4 then (zgd (zin p0 9) (some ((x2.2.2.1 0 65 (Int32.toNatClampNeg p0)), 0, x2.2.2))) else if p1 = 5 then (zgd (zin p0 9) (some ((x2.2.2.1 0 66 (Int32.toNatClampNeg p0)), 0, x2.2.2))) else if p1 = 6 then ((C 157 [.inr (.inr (0, 60)), .inl p0] x2.2.2).bind fun x7 => if x7.1 = 0 then ((C 169 [.inr (.inr (0, 60)), .inl p0] x7.2.2).bind fun x8 => if x8.1 = 0 then (some (0, 0, x8.2.2)) else (some (1, 0, x8.2.2))) else (some (2, 0, x7.2.2))) else ((C 156 [.inr (.inr (0, 60)), .inl p0, .inl p1] x2.2.2).bind fun x9 => some (x9.1, 0, x9.2.2)))) : zR)) (zev d) :=
  (zev_m (T := zT_173) rfl rfl).trans ((zrun_eq (zev d) zT_173 [] 60 _ _ _ _).trans (by rfl))

/-- X12_change (III)I -/
theorem ez_174 (d : Nat) (p0 : Int32) (p1 : Int32) (p2 : Int32) (σ : zM) : zev (d + 1) 174 [.inr (.inr (0, 60)), .inl p0, .inl p1, .inl p2] σ = (fun C : zC => ((C 150 [.inr (.inr (0, 60)), .inl p0] σ).bind fun x0 => if x0.1 = 0 then (some ((-1), 0, x0.2.2)) else ((C 159 [.inl p1, .inl p2] x0.2.2).bind fun x1 => if x1.1 = 0 then (some ((-1), 0, x1.2.2)) else ((C 156 [.inr (.inr (0, 60)), .inl p0, .inl p1] x1.2.2).bind fun x2 => (C 155 [.inl p0, .inl p1] x2.2.2).bind fun x3 => zgd (zin x3.1 320) (some (x2.1, 0, zwI x3.2.2 0 61 (Int32.toNatClampNeg x3.1) p2)))) : zR)) (zev d) :=
  (zev_m (T := zT_174) rfl rfl).trans ((zrun_eq (zev d) zT_174 [] 29 _ _ _ _).trans (by rfl))

/-- X12_graft (II)I -/
theorem ez_175 (d : Nat) (p0 : Int32) (p1 : Int32) (σ : zM) : zev (d + 1) 175 [.inr (.inr (0, 60)), .inl p0, .inl p1] σ = (fun C : zC => ((C 150 [.inr (.inr (0, 60)), .inl p0] σ).bind fun x0 => if x0.1 = 0 then (some ((-1), 0, x0.2.2)) else ((C 149 [.inr (.inl (Int32.toInt64 p1)), .inr (.inl 1), .inr (.inl 5)] x0.2.2).bind fun x1 => if x1.1 = 0 then (some ((-1), 0, x1.2.2)) else ((C 156 [.inr (.inr (0, 60)), .inl p0, .inl 0] x1.2.2).bind fun x2 => (C 155 [.inl p0, .inl 0] x2.2.2).bind fun x3 => zgd (zin x3.1 320) (some (x2.1, 0, zwI x3.2.2 0 61 (Int32.toNatClampNeg x3.1) p1)))) : zR)) (zev d) :=
  (zev_m (T := zT_175) rfl rfl).trans ((zrun_eq (zev d) zT_175 [] 31 _ _ _ _).trans (by rfl))

/-- X12_weather (II)I -/
theorem ez_176 (d : Nat) (p0 : Int32) (p1 : Int32) (σ : zM) : zev (d + 1) 176 [.inr (.inr (0, 60)), .inl p0, .inl p1] σ = (fun C : zC => ((C 149 [.inr (.inl (Int32.toInt64 p0)), .inr (.inl 0), .inr (.inl 1)] σ).bind fun x0 => if x0.1 = 0 then (some ((-1), 0, x0.2.2)) else ((C 149 [.inr (.inl (Int32.toInt64 p1)), .inr (.inl 0), .inr (.inl 9)] x0.2.2).bind fun x1 => if x1.1 = 0 then (some ((-1), 0, x1.2.2)) else (zgd (zin (4 + p0) 320) (zgd (zin (4 + p0) 320) (some ((x1.2.2.1 0 61 (Int32.toNatClampNeg (4 + p0))), 0, zwI x1.2.2 0 61 (Int32.toNatClampNeg (4 + p0)) p1))))) : zR)) (zev d) :=
  (zev_m (T := zT_176) rfl rfl).trans ((zrun_eq (zev d) zT_176 [] 35 _ _ _ _).trans (by rfl))

/-- X12_where (II)I -/
theorem ez_177 (d : Nat) (p0 : Int32) (p1 : Int32) (σ : zM) : zev (d + 1) 177 [.inl p0, .inl p1] σ = (fun C : zC => (some (((52 + (3 * p0)) + p1), 0, σ) : zR)) (zev d) :=
  (zev_m (T := zT_177) rfl rfl).trans ((zrun_eq (zev d) zT_177 [] 13 _ _ _ _).trans (by rfl))

/-- X12_whose (II)I -/
theorem ez_178 (d : Nat) (p0 : Int32) (p1 : Int32) (σ : zM) : zev (d + 1) 178 [.inr (.inr (0, 60)), .inl p0, .inl p1] σ = (fun C : zC => ((C 177 [.inl p0, .inl p1] σ).bind fun x0 => zgd (zin x0.1 320) (some ((x0.2.2.1 0 61 (Int32.toNatClampNeg x0.1)), 0, x0.2.2)) : zR)) (zev d) :=
  (zev_m (T := zT_178) rfl rfl).trans ((zrun_eq (zev d) zT_178 [] 12 _ _ _ _).trans (by rfl))

/-- X12_seatOf (I)I -/
theorem ez_179 (d : Nat) (p0 : Int32) (σ : zM) : zev (d + 1) 179 [.inr (.inr (0, 60)), .inl p0] σ = (fun C : zC => ((C 178 [.inr (.inr (0, 60)), .inl p0, .inl 2] σ).bind fun x0 => some ((x0.1 - 1), 0, x0.2.2) : zR)) (zev d) :=
  (zev_m (T := zT_179) rfl rfl).trans ((zrun_eq (zev d) zT_179 [] 12 _ _ _ _).trans (by rfl))

/-- X12_seats (II)V -/
theorem ez_180 (d : Nat) (p0 : Int32) (p1 : Int32) (σ : zM) : zev (d + 1) 180 [.inr (.inr (0, 60)), .inl p0, .inl p1] σ = (fun C : zC => ((C 177 [.inl p0, .inl 2] σ).bind fun x0 => zgd (zin x0.1 320) (some (0, 0, zwI x0.2.2 0 61 (Int32.toNatClampNeg x0.1) (p1 + 1))) : zR)) (zev d) :=
  (zev_m (T := zT_180) rfl rfl).trans ((zrun_eq (zev d) zT_180 [] 15 _ _ _ _).trans (by rfl))

/-- X12_person (II)I -/
theorem ez_181 (d : Nat) (p0 : Int32) (p1 : Int32) (σ : zM) : zev (d + 1) 181 [.inr (.inr (0, 60)), .inl p0, .inl p1] σ = (fun C : zC => ((C 149 [.inr (.inl (Int32.toInt64 p0)), .inr (.inl 1), .inr (.inl 200)] σ).bind fun x0 => if x0.1 = 0 then (some ((-1), 0, x0.2.2)) else ((C 149 [.inr (.inl (Int32.toInt64 p1)), .inr (.inl 0), .inr (.inl 1)] x0.2.2).bind fun x1 => if x1.1 = 0 then (some ((-1), 0, x1.2.2)) else (if (x1.2.2.1 0 61 2) = 8 then (some ((-2), 0, x1.2.2)) else ((C 177 [.inl (x1.2.2.1 0 61 2), .inl 0] x1.2.2).bind fun x2 => zgd (zin x2.1 320) ((C 177 [.inl (x1.2.2.1 0 61 2), .inl 1] (zwI x2.2.2 0 61 (Int32.toNatClampNeg x2.1) p0)).bind fun x3 => zgd (zin x3.1 320) ((C 177 [.inl (x1.2.2.1 0 61 2), .inl 2] (zwI x3.2.2 0 61 (Int32.toNatClampNeg x3.1) p1)).bind fun x4 => zgd (zin x4.1 320) (some ((x1.2.2.1 0 61 2), 0, zwI (zwI x4.2.2 0 61 (Int32.toNatClampNeg x4.1) 0) 0 61 2 (((zwI x4.2.2 0 61 (Int32.toNatClampNeg x4.1) 0).1 0 61 2) + 1)))))))) : zR)) (zev d) :=
  (zev_m (T := zT_181) rfl rfl).trans ((zrun_eq (zev d) zT_181 [] 63 _ _ _ _).trans (by rfl))

/-- X12_toldSeat (I)I -/
theorem ez_182 (d : Nat) (p0 : Int32) (σ : zM) : zev (d + 1) 182 [.inr (.inr (0, 60)), .inl p0] σ = (fun C : zC => ((C 179 [.inr (.inr (0, 60)), .inl p0] σ).bind fun x0 => if x0.1 < 0 then (some ((-9), 0, x0.2.2)) else ((C 179 [.inr (.inr (0, 60)), .inl p0] x0.2.2).bind fun x1 => some (x1.1, 0, x1.2.2)) : zR)) (zev d) :=
  (zev_m (T := zT_182) rfl rfl).trans ((zrun_eq (zev d) zT_182 [] 15 _ _ _ _).trans (by rfl))

/-- X12_personOf (II)I -/
theorem ez_183 (d : Nat) (p0 : Int32) (p1 : Int32) (σ : zM) : zev (d + 1) 183 [.inr (.inr (0, 60)), .inl p0, .inl p1] σ = (fun C : zC => ((C 151 [.inr (.inr (0, 60)), .inl p0] σ).bind fun x0 => if x0.1 = 0 then (some ((-1), 0, x0.2.2)) else ((C 149 [.inr (.inl (Int32.toInt64 p1)), .inr (.inl 0), .inr (.inl 2)] x0.2.2).bind fun x1 => if x1.1 = 0 then (some ((-1), 0, x1.2.2)) else (if p1 < 2 then ((C 178 [.inr (.inr (0, 60)), .inl p0, .inl p1] x1.2.2).bind fun x2 => some (x2.1, 0, x2.2.2)) else ((C 182 [.inr (.inr (0, 60)), .inl p0] x1.2.2).bind fun x3 => some (x3.1, 0, x3.2.2)))) : zR)) (zev d) :=
  (zev_m (T := zT_183) rfl rfl).trans ((zrun_eq (zev d) zT_183 [] 29 _ _ _ _).trans (by rfl))

/-- X12_sit (II)I -/
theorem ez_184 (d : Nat) (p0 : Int32) (p1 : Int32) (σ : zM) : zev (d + 1) 184 [.inr (.inr (0, 60)), .inl p0, .inl p1] σ = (fun C : zC => ((C 151 [.inr (.inr (0, 60)), .inl p0] σ).bind fun x0 => if x0.1 = 0 then (some ((-1), 0, x0.2.2)) else ((C 150 [.inr (.inr (0, 60)), .inl p1] x0.2.2).bind fun x1 => if x1.1 = 0 then (some ((-1), 0, x1.2.2)) else ((C 157 [.inr (.inr (0, 60)), .inl p1] x1.2.2).bind fun x2 => if x2.1 = 0 then ((C 182 [.inr (.inr (0, 60)), .inl p0] x2.2.2).bind fun x3 => (C 180 [.inr (.inr (0, 60)), .inl p0, .inl p1] x3.2.2).bind fun x4 => some (x3.1, 0, x4.2.2)) else (some ((-4), 0, x2.2.2)))) : zR)) (zev d) :=
  (zev_m (T := zT_184) rfl rfl).trans ((zrun_eq (zev d) zT_184 [] 31 _ _ _ _).trans (by rfl))

/-- X12_down (I)I -/
theorem ez_185 (d : Nat) (p0 : Int32) (σ : zM) : zev (d + 1) 185 [.inr (.inr (0, 60)), .inl p0] σ = (fun C : zC => ((C 151 [.inr (.inr (0, 60)), .inl p0] σ).bind fun x0 => if x0.1 = 0 then (some ((-1), 0, x0.2.2)) else ((C 182 [.inr (.inr (0, 60)), .inl p0] x0.2.2).bind fun x1 => (C 180 [.inr (.inr (0, 60)), .inl p0, .inl (-1)] x1.2.2).bind fun x2 => some (x1.1, 0, x2.2.2)) : zR)) (zev d) :=
  (zev_m (T := zT_185) rfl rfl).trans ((zrun_eq (zev d) zT_185 [] 21 _ _ _ _).trans (by rfl))

/-- X12_cracks ()I -/
theorem ez_186 (d : Nat)  (σ : zM) : zev (d + 1) 186 [.inr (.inr (0, 60))] σ = (fun C : zC => ((C 166 [.inr (.inr (0, 60))] σ).bind fun x0 => (C 170 [.inr (.inr (0, 60))] x0.2.2).bind fun x1 => some (x1.1, 0, x1.2.2) : zR)) (zev d) :=
  (zev_m (T := zT_186) rfl rfl).trans ((zrun_eq (zev d) zT_186 [] 10 _ _ _ _).trans (by rfl))

/-- X12_worstOf ()I -/
theorem ez_187 (d : Nat)  (σ : zM) : zev (d + 1) 187 [.inr (.inr (0, 60))] σ = (fun C : zC => ((C 168 [.inr (.inr (0, 60))] σ).bind fun x0 => zrun C zT_187 8 [some (.inr (.inr (0, 60))), some (.inl (-1)), some (.inl 0)] [] x0.2.2 : zR)) (zev d) :=
  (zev_m (T := zT_187) rfl rfl).trans ((zrun_eq (zev d) zT_187 [8] 50 _ _ _ _).trans (by rfl))
theorem ez_187_8 (C : zC) (a1 : Int32) (a2 : Int32) (σ : zM) : zrun C zT_187 8 [some (.inr (.inr (0, 60))), some (.inl a1), some (.inl a2)] [] σ = if a2 < (σ.1 0 61 0) then ((C 157 [.inr (.inr (0, 60)), .inl a2] σ).bind fun x0 => if x0.1 = 0 then (if a1 < 0 then (zrun C zT_187 8 [some (.inr (.inr (0, 60))), some (.inl a2), some (.inl (a2 + 1))] [] x0.2.2) else (zgd (zin a2 9) (zgd (zin a2 9) (zgd (zin a1 9) (zgd (zin a1 9) (if ((x0.2.2.1 0 66 (Int32.toNatClampNeg a1)) - (x0.2.2.1 0 65 (Int32.toNatClampNeg a1))) < ((x0.2.2.1 0 66 (Int32.toNatClampNeg a2)) - (x0.2.2.1 0 65 (Int32.toNatClampNeg a2))) then (zrun C zT_187 8 [some (.inr (.inr (0, 60))), some (.inl a2), some (.inl (a2 + 1))] [] x0.2.2) else (zrun C zT_187 8 [some (.inr (.inr (0, 60))), some (.inl a1), some (.inl (a2 + 1))] [] x0.2.2))))))) else (zrun C zT_187 8 [some (.inr (.inr (0, 60))), some (.inl a1), some (.inl (a2 + 1))] [] x0.2.2)) else (some (a1, 0, σ)) :=
  (zrun_eq C zT_187 [8] 50 _ _ _ _).trans (by rfl)

/-- X12_worst ()I -/
theorem ez_188 (d : Nat)  (σ : zM) : zev (d + 1) 188 [.inr (.inr (0, 60))] σ = (fun C : zC => ((C 166 [.inr (.inr (0, 60))] σ).bind fun x0 => (C 187 [.inr (.inr (0, 60))] x0.2.2).bind fun x1 => if x1.1 < 0 then (some ((-3), 0, x1.2.2)) else (some (x1.1, 0, x1.2.2)) : zR)) (zev d) :=
  (zev_m (T := zT_188) rfl rfl).trans ((zrun_eq (zev d) zT_188 [] 16 _ _ _ _).trans (by rfl))

/-- X12_isAbove (II)Z -/
theorem ez_189 (d : Nat) (p0 : Int32) (p1 : Int32) (σ : zM) : zev (d + 1) 189 [.inr (.inr (0, 60)), .inl p0, .inl p1] σ = (fun C : zC => (zrun C zT_189 2 [some (.inr (.inr (0, 60))), some (.inl p0), some (.inl p1), some (.inl p0)] [] σ : zR)) (zev d) :=
  (zev_m (T := zT_189) rfl rfl).trans ((zrun_eq (zev d) zT_189 [2] 24 _ _ _ _).trans (by rfl))
theorem ez_189_2 (C : zC) (d1 : Option zV) (a2 : Int32) (a3 : Int32) (σ : zM) : zrun C zT_189 2 [some (.inr (.inr (0, 60))), d1, some (.inl a2), some (.inl a3)] [] σ = if a3 < 0 then (if a3 = a2 then (zgd (zret 3 1) (some (1, 0, σ))) else (zgd (zret 3 0) (some (0, 0, σ)))) else (if a3 = a2 then (if a3 = a2 then (zgd (zret 3 1) (some (1, 0, σ))) else (zgd (zret 3 0) (some (0, 0, σ)))) else ((C 158 [.inr (.inr (0, 60)), .inl a3] σ).bind fun x0 => zrun C zT_189 2 [some (.inr (.inr (0, 60))), none, some (.inl a2), some (.inl x0.1)] [] x0.2.2)) :=
  (zrun_eq C zT_189 [2] 24 _ _ _ _).trans (by rfl)

/-- X12_falls ()I -/
theorem ez_190 (d : Nat)  (σ : zM) : zev (d + 1) 190 [.inr (.inr (0, 60))] σ = (fun C : zC => ((C 166 [.inr (.inr (0, 60))] σ).bind fun x0 => (C 187 [.inr (.inr (0, 60))] x0.2.2).bind fun x1 => zrun C zT_190 11 [some (.inr (.inr (0, 60))), some (.inl 0), some (.inl x1.1), none] [] x1.2.2 : zR)) (zev d) :=
  (zev_m (T := zT_190) rfl rfl).trans ((zrun_eq (zev d) zT_190 [11, 25, 72] 77 _ _ _ _).trans (by rfl))
theorem ez_190_11 (C : zC) (a1 : Int32) (a2 : Int32) (d3 : Option zV) (σ : zM) : zrun C zT_190 11 [some (.inr (.inr (0, 60))), some (.inl a1), some (.inl a2), d3] [] σ = if a2 < 0 then (some (a1, 0, σ)) else ((C 169 [.inr (.inr (0, 60)), .inl a2] σ).bind fun x0 => if x0.1 = 0 then (some (a1, 0, x0.2.2)) else (zrun C zT_190 25 [some (.inr (.inr (0, 60))), some (.inl a1), some (.inl a2), some (.inl 0)] [] x0.2.2)) :=
  (zrun_eq C zT_190 [11, 25, 72] 77 _ _ _ _).trans (by rfl)
theorem ez_190_25 (C : zC) (a1 : Int32) (a2 : Int32) (a3 : Int32) (σ : zM) : zrun C zT_190 25 [some (.inr (.inr (0, 60))), some (.inl a1), some (.inl a2), some (.inl a3)] [] σ = if a3 < (σ.1 0 61 0) then ((C 155 [.inl a3, .inl 4] σ).bind fun x0 => (C 189 [.inr (.inr (0, 60)), .inl a3, .inl a2] x0.2.2).bind fun x1 => if x1.1 = 0 then ((C 156 [.inr (.inr (0, 60)), .inl a3, .inl 4] x1.2.2).bind fun x2 => zgd (zin x0.1 320) (zrun C zT_190 25 [some (.inr (.inr (0, 60))), some (.inl a1), some (.inl a2), some (.inl (a3 + 1))] [] (zwI x2.2.2 0 61 (Int32.toNatClampNeg x0.1) x2.1))) else (zgd (zin x0.1 320) (zrun C zT_190 25 [some (.inr (.inr (0, 60))), some (.inl a1), some (.inl a2), some (.inl (a3 + 1))] [] (zwI x1.2.2 0 61 (Int32.toNatClampNeg x0.1) 1)))) else (zrun C zT_190 72 [some (.inr (.inr (0, 60))), some (.inl a1), some (.inl a2), some (.inl 0)] [] σ) :=
  (zrun_eq C zT_190 [11, 25, 72] 77 _ _ _ _).trans (by rfl)
theorem ez_190_72 (C : zC) (a1 : Int32) (a2 : Int32) (a3 : Int32) (σ : zM) : zrun C zT_190 72 [some (.inr (.inr (0, 60))), some (.inl a1), some (.inl a2), some (.inl a3)] [] σ = if a3 < (σ.1 0 61 2) then ((C 179 [.inr (.inr (0, 60)), .inl a3] σ).bind fun x0 => if x0.1 < 0 then (zrun C zT_190 72 [some (.inr (.inr (0, 60))), some (.inl a1), some (.inl a2), some (.inl (a3 + 1))] [] x0.2.2) else ((C 179 [.inr (.inr (0, 60)), .inl a3] x0.2.2).bind fun x1 => (C 189 [.inr (.inr (0, 60)), .inl x1.1, .inl a2] x1.2.2).bind fun x2 => if x2.1 = 0 then (zrun C zT_190 72 [some (.inr (.inr (0, 60))), some (.inl a1), some (.inl a2), some (.inl (a3 + 1))] [] x2.2.2) else ((C 180 [.inr (.inr (0, 60)), .inl a3, .inl (-1)] x2.2.2).bind fun x3 => zrun C zT_190 72 [some (.inr (.inr (0, 60))), some (.inl (a1 + 1)), some (.inl a2), some (.inl (a3 + 1))] [] x3.2.2))) else ((C 187 [.inr (.inr (0, 60))] σ).bind fun x4 => zrun C zT_190 11 [some (.inr (.inr (0, 60))), some (.inl a1), some (.inl x4.1), some (.inl a3)] [] x4.2.2) :=
  (zrun_eq C zT_190 [11, 25, 72] 77 _ _ _ _).trans (by rfl)

/-- X12_fall ()I -/
theorem ez_191 (d : Nat)  (σ : zM) : zev (d + 1) 191 [.inr (.inr (0, 60))] σ = (fun C : zC => ((C 190 [.inr (.inr (0, 60))] σ).bind fun x0 => some (x0.1, 0, x0.2.2) : zR)) (zev d) :=
  (zev_m (T := zT_191) rfl rfl).trans ((zrun_eq (zev d) zT_191 [] 8 _ _ _ _).trans (by rfl))

/-- X12_would ()I -/
theorem ez_192 (d : Nat)  (σ : zM) : zev (d + 1) 192 [.inr (.inr (0, 60))] σ = (fun C : zC => ((C 153 [.inr (.inr (0, 60))] σ).bind fun x0 => (C 190 [.inr (.inr (0, 60))] x0.2.2).bind fun x1 => (C 154 [.inr (.inr (0, 60))] x1.2.2).bind fun x2 => some (x1.1, 0, x2.2.2) : zR)) (zev d) :=
  (zev_m (T := zT_192) rfl rfl).trans ((zrun_eq (zev d) zT_192 [] 14 _ _ _ _).trans (by rfl))

/-- X12_findStanding ()V -/
theorem ez_193 (d : Nat)  (σ : zM) : zev (d + 1) 193 [.inr (.inr (0, 60))] σ = (fun C : zC => ((C 153 [.inr (.inr (0, 60))] σ).bind fun x0 => (C 190 [.inr (.inr (0, 60))] x0.2.2).bind fun x1 => zrun C zT_193 25 [some (.inr (.inr (0, 60))), some (.inl x1.1), some (.inl 0)] [] (zwI (zwI x1.2.2 0 67 0 0) 0 67 1 0) : zR)) (zev d) :=
  (zev_m (T := zT_193) rfl rfl).trans ((zrun_eq (zev d) zT_193 [25] 53 _ _ _ _).trans (by rfl))
theorem ez_193_25 (C : zC) (d1 : Option zV) (a2 : Int32) (σ : zM) : zrun C zT_193 25 [some (.inr (.inr (0, 60))), d1, some (.inl a2)] [] σ = if a2 < (σ.1 0 61 2) then ((C 178 [.inr (.inr (0, 60)), .inl a2, .inl 1] σ).bind fun x0 => zgd (zin x0.1 2) ((C 179 [.inr (.inr (0, 60)), .inl a2] x0.2.2).bind fun x1 => if x1.1 < 0 then (zgd (zin x0.1 2) (zrun C zT_193 25 [some (.inr (.inr (0, 60))), none, some (.inl (a2 + 1))] [] (zwI x1.2.2 0 67 (Int32.toNatClampNeg x0.1) ((x0.2.2.1 0 67 (Int32.toNatClampNeg x0.1)) + 0)))) else ((C 178 [.inr (.inr (0, 60)), .inl a2, .inl 0] x1.2.2).bind fun x2 => zgd (zin x0.1 2) (zrun C zT_193 25 [some (.inr (.inr (0, 60))), none, some (.inl (a2 + 1))] [] (zwI x2.2.2 0 67 (Int32.toNatClampNeg x0.1) ((x0.2.2.1 0 67 (Int32.toNatClampNeg x0.1)) + x2.1)))))) else ((C 154 [.inr (.inr (0, 60))] σ).bind fun x3 => some (0, 0, x3.2.2)) :=
  (zrun_eq C zT_193 [25] 53 _ _ _ _).trans (by rfl)

/-- X12_standing (I)I -/
theorem ez_194 (d : Nat) (p0 : Int32) (σ : zM) : zev (d + 1) 194 [.inr (.inr (0, 60)), .inl p0] σ = (fun C : zC => ((C 149 [.inr (.inl (Int32.toInt64 p0)), .inr (.inl 0), .inr (.inl 1)] σ).bind fun x0 => if x0.1 = 0 then (some ((-1), 0, x0.2.2)) else ((C 193 [.inr (.inr (0, 60))] x0.2.2).bind fun x1 => zgd (zin p0 2) (some ((x1.2.2.1 0 67 (Int32.toNatClampNeg p0)), 0, x1.2.2))) : zR)) (zev d) :=
  (zev_m (T := zT_194) rfl rfl).trans ((zrun_eq (zev d) zT_194 [] 20 _ _ _ _).trans (by rfl))

/-- X12_verdict ()I -/
theorem ez_195 (d : Nat)  (σ : zM) : zev (d + 1) 195 [.inr (.inr (0, 60))] σ = (fun C : zC => ((C 193 [.inr (.inr (0, 60))] σ).bind fun x0 => if (x0.2.2.1 0 67 1) < (x0.2.2.1 0 67 0) then (some (0, 0, x0.2.2)) else (if (x0.2.2.1 0 67 0) < (x0.2.2.1 0 67 1) then (some (1, 0, x0.2.2)) else (some (2, 0, x0.2.2))) : zR)) (zev d) :=
  (zev_m (T := zT_195) rfl rfl).trans ((zrun_eq (zev d) zT_195 [] 31 _ _ _ _).trans (by rfl))

/-- X12_roomOf (I)I -/
theorem ez_196 (d : Nat) (p0 : Int32) (σ : zM) : zev (d + 1) 196 [.inr (.inr (0, 60)), .inl p0] σ = (fun C : zC => (zgd (zin p0 9) (zgd (zin p0 9) (zrun C zT_196 16 [some (.inr (.inr (0, 60))), some (.inl p0), some (.inl ((σ.1 0 65 (Int32.toNatClampNeg p0)) - (σ.1 0 66 (Int32.toNatClampNeg p0)))), some (.inl p0)] [] σ)) : zR)) (zev d) :=
  (zev_m (T := zT_196) rfl rfl).trans ((zrun_eq (zev d) zT_196 [16] 53 _ _ _ _).trans (by rfl))
theorem ez_196_16 (C : zC) (d1 : Option zV) (a2 : Int32) (a3 : Int32) (σ : zM) : zrun C zT_196 16 [some (.inr (.inr (0, 60))), d1, some (.inl a2), some (.inl a3)] [] σ = if a3 < 0 then (if a2 < 0 then (some (0, 0, σ)) else (some (a2, 0, σ))) else (zgd (zin a3 9) (zgd (zin a3 9) (if ((σ.1 0 65 (Int32.toNatClampNeg a3)) - (σ.1 0 66 (Int32.toNatClampNeg a3))) < a2 then (zgd (zin a3 9) (zgd (zin a3 9) ((C 158 [.inr (.inr (0, 60)), .inl a3] σ).bind fun x0 => zrun C zT_196 16 [some (.inr (.inr (0, 60))), none, some (.inl ((σ.1 0 65 (Int32.toNatClampNeg a3)) - (σ.1 0 66 (Int32.toNatClampNeg a3)))), some (.inl x0.1)] [] x0.2.2))) else ((C 158 [.inr (.inr (0, 60)), .inl a3] σ).bind fun x1 => zrun C zT_196 16 [some (.inr (.inr (0, 60))), none, some (.inl a2), some (.inl x1.1)] [] x1.2.2)))) :=
  (zrun_eq C zT_196 [16] 53 _ _ _ _).trans (by rfl)

/-- X12_room (I)I -/
theorem ez_197 (d : Nat) (p0 : Int32) (σ : zM) : zev (d + 1) 197 [.inr (.inr (0, 60)), .inl p0] σ = (fun C : zC => ((C 150 [.inr (.inr (0, 60)), .inl p0] σ).bind fun x0 => if x0.1 = 0 then (some ((-1), 0, x0.2.2)) else ((C 157 [.inr (.inr (0, 60)), .inl p0] x0.2.2).bind fun x1 => if x1.1 = 0 then ((C 172 [.inr (.inr (0, 60))] x1.2.2).bind fun x2 => (C 196 [.inr (.inr (0, 60)), .inl p0] x2.2.2).bind fun x3 => some (x3.1, 0, x3.2.2)) else (some ((-4), 0, x1.2.2))) : zR)) (zev d) :=
  (zev_m (T := zT_197) rfl rfl).trans ((zrun_eq (zev d) zT_197 [] 23 _ _ _ _).trans (by rfl))

/-- X12_best (I)I -/
theorem ez_198 (d : Nat) (p0 : Int32) (σ : zM) : zev (d + 1) 198 [.inr (.inr (0, 60)), .inl p0] σ = (fun C : zC => ((C 151 [.inr (.inr (0, 60)), .inl p0] σ).bind fun x0 => if x0.1 = 0 then (some ((-1), 0, x0.2.2)) else ((C 179 [.inr (.inr (0, 60)), .inl p0] x0.2.2).bind fun x1 => (C 180 [.inr (.inr (0, 60)), .inl p0, .inl (-1)] x1.2.2).bind fun x2 => (C 172 [.inr (.inr (0, 60))] x2.2.2).bind fun x3 => (C 180 [.inr (.inr (0, 60)), .inl p0, .inl x1.1] x3.2.2).bind fun x4 => zrun C zT_198 37 [some (.inr (.inr (0, 60))), some (.inl p0), some (.inl x1.1), some (.inl (-1)), some (.inl 0)] [] x4.2.2) : zR)) (zev d) :=
  (zev_m (T := zT_198) rfl rfl).trans ((zrun_eq (zev d) zT_198 [37] 60 _ _ _ _).trans (by rfl))
theorem ez_198_37 (C : zC) (d1 : Option zV) (d2 : Option zV) (a3 : Int32) (a4 : Int32) (σ : zM) : zrun C zT_198 37 [some (.inr (.inr (0, 60))), d1, d2, some (.inl a3), some (.inl a4)] [] σ = if a4 < (σ.1 0 61 0) then ((C 157 [.inr (.inr (0, 60)), .inl a4] σ).bind fun x0 => if x0.1 = 0 then (if a3 < 0 then (zrun C zT_198 37 [some (.inr (.inr (0, 60))), none, none, some (.inl a4), some (.inl (a4 + 1))] [] x0.2.2) else ((C 196 [.inr (.inr (0, 60)), .inl a4] x0.2.2).bind fun x1 => (C 196 [.inr (.inr (0, 60)), .inl a3] x1.2.2).bind fun x2 => if x2.1 < x1.1 then (zrun C zT_198 37 [some (.inr (.inr (0, 60))), none, none, some (.inl a4), some (.inl (a4 + 1))] [] x2.2.2) else (zrun C zT_198 37 [some (.inr (.inr (0, 60))), none, none, some (.inl a3), some (.inl (a4 + 1))] [] x2.2.2))) else (zrun C zT_198 37 [some (.inr (.inr (0, 60))), none, none, some (.inl a3), some (.inl (a4 + 1))] [] x0.2.2)) else (if a3 < 0 then (some ((-3), 0, σ)) else (some (a3, 0, σ))) :=
  (zrun_eq C zT_198 [37] 60 _ _ _ _).trans (by rfl)

/-- X12_safe (I)I -/
theorem ez_199 (d : Nat) (p0 : Int32) (σ : zM) : zev (d + 1) 199 [.inr (.inr (0, 60)), .inl p0] σ = (fun C : zC => ((C 151 [.inr (.inr (0, 60)), .inl p0] σ).bind fun x0 => if x0.1 = 0 then (some ((-1), 0, x0.2.2)) else ((C 166 [.inr (.inr (0, 60))] x0.2.2).bind fun x1 => (C 179 [.inr (.inr (0, 60)), .inl p0] x1.2.2).bind fun x2 => zrun C zT_199 25 [some (.inr (.inr (0, 60))), some (.inl p0), some (.inl x2.1), some (.inl 0), some (.inl 0)] [] x2.2.2) : zR)) (zev d) :=
  (zev_m (T := zT_199) rfl rfl).trans ((zrun_eq (zev d) zT_199 [25] 54 _ _ _ _).trans (by rfl))
theorem ez_199_25 (C : zC) (a1 : Int32) (a2 : Int32) (a3 : Int32) (a4 : Int32) (σ : zM) : zrun C zT_199 25 [some (.inr (.inr (0, 60))), some (.inl a1), some (.inl a2), some (.inl a3), some (.inl a4)] [] σ = if a4 < (σ.1 0 61 0) then ((C 157 [.inr (.inr (0, 60)), .inl a4] σ).bind fun x0 => if x0.1 = 0 then ((C 180 [.inr (.inr (0, 60)), .inl a1, .inl a4] x0.2.2).bind fun x1 => (C 171 [.inr (.inr (0, 60))] x1.2.2).bind fun x2 => if x2.1 = 0 then (zrun C zT_199 25 [some (.inr (.inr (0, 60))), some (.inl a1), some (.inl a2), some (.inl (a3 ||| 0)), some (.inl (a4 + 1))] [] x2.2.2) else (zrun C zT_199 25 [some (.inr (.inr (0, 60))), some (.inl a1), some (.inl a2), some (.inl (a3 ||| (1 <<< (a4 &&& 31)))), some (.inl (a4 + 1))] [] x2.2.2)) else (zrun C zT_199 25 [some (.inr (.inr (0, 60))), some (.inl a1), some (.inl a2), some (.inl a3), some (.inl (a4 + 1))] [] x0.2.2)) else ((C 180 [.inr (.inr (0, 60)), .inl a1, .inl a2] σ).bind fun x3 => some (a3, 0, x3.2.2)) :=
  (zrun_eq C zT_199 [25] 54 _ _ _ _).trans (by rfl)

/-- X12_prop ()I -/
theorem ez_200 (d : Nat)  (σ : zM) : zev (d + 1) 200 [.inr (.inr (0, 60))] σ = (fun C : zC => ((C 193 [.inr (.inr (0, 60))] σ).bind fun x0 => zrun C zT_200 23 [some (.inr (.inr (0, 60))), some (.inl ((x0.2.2.1 0 67 0) + (x0.2.2.1 0 67 1))), some (.inl (-3)), some (.inl 0), none] [] x0.2.2 : zR)) (zev d) :=
  (zev_m (T := zT_200) rfl rfl).trans ((zrun_eq (zev d) zT_200 [23, 90] 90 _ _ _ _).trans (by rfl))
theorem ez_200_23 (C : zC) (a1 : Int32) (a2 : Int32) (a3 : Int32) (d4 : Option zV) (σ : zM) : zrun C zT_200 23 [some (.inr (.inr (0, 60))), some (.inl a1), some (.inl a2), some (.inl a3), d4] [] σ = if a3 < (σ.1 0 61 0) then ((C 156 [.inr (.inr (0, 60)), .inl a3, .inl 0] σ).bind fun x0 => (C 155 [.inl a3, .inl 0] x0.2.2).bind fun x1 => zgd (zin x1.1 320) ((C 193 [.inr (.inr (0, 60))] (zwI x1.2.2 0 61 (Int32.toNatClampNeg x1.1) 4)).bind fun x2 => (C 155 [.inl a3, .inl 0] x2.2.2).bind fun x3 => zgd (zin x3.1 320) (if a1 < (((zwI x3.2.2 0 61 (Int32.toNatClampNeg x3.1) x0.1).1 0 67 0) + ((zwI x3.2.2 0 61 (Int32.toNatClampNeg x3.1) x0.1).1 0 67 1)) then (zrun C zT_200 90 [some (.inr (.inr (0, 60))), some (.inl a1), some (.inl a2), some (.inl a3), some (.inl x0.1)] [.inl a3] (zwI x3.2.2 0 61 (Int32.toNatClampNeg x3.1) x0.1)) else (zrun C zT_200 90 [some (.inr (.inr (0, 60))), some (.inl a1), some (.inl a2), some (.inl a3), some (.inl x0.1)] [.inl a2] (zwI x3.2.2 0 61 (Int32.toNatClampNeg x3.1) x0.1))))) else (some (a2, 0, σ)) :=
  (zrun_eq C zT_200 [23, 90] 90 _ _ _ _).trans (by rfl)
theorem ez_200_90 (C : zC) (a1 : Int32) (d2 : Option zV) (a3 : Int32) (d4 : Option zV) (s0 : Int32) (σ : zM) : zrun C zT_200 90 [some (.inr (.inr (0, 60))), some (.inl a1), d2, some (.inl a3), d4] [.inl s0] σ = if a1 < ((σ.1 0 67 0) + (σ.1 0 67 1)) then (zrun C zT_200 23 [some (.inr (.inr (0, 60))), some (.inl ((σ.1 0 67 0) + (σ.1 0 67 1))), some (.inl s0), some (.inl (a3 + 1)), none] [] σ) else (zrun C zT_200 23 [some (.inr (.inr (0, 60))), some (.inl a1), some (.inl s0), some (.inl (a3 + 1)), none] [] σ) :=
  (zrun_eq C zT_200 [23, 90] 90 _ _ _ _).trans (by rfl)

/-- X12_leastOf (IZ)I -/
theorem ez_201 (d : Nat) (p0 : Int32) (p1 : Int32) (σ : zM) : zev (d + 1) 201 [.inr (.inr (0, 60)), .inl p0, .inl p1] σ = (fun C : zC => (zgd (zin (4 + p0) 320) (zrun C zT_201 16 [some (.inr (.inr (0, 60))), some (.inl p0), some (.inl p1), some (.inl (σ.1 0 61 (Int32.toNatClampNeg (4 + p0)))), some (.inl (-3)), some (.inl 0)] [] σ) : zR)) (zev d) :=
  (zev_m (T := zT_201) rfl rfl).trans ((zrun_eq (zev d) zT_201 [16] 49 _ _ _ _).trans (by rfl))
theorem ez_201_16 (C : zC) (a1 : Int32) (a2 : Int32) (a3 : Int32) (a4 : Int32) (a5 : Int32) (σ : zM) : zrun C zT_201 16 [some (.inr (.inr (0, 60))), some (.inl a1), some (.inl a2), some (.inl a3), some (.inl a4), some (.inl a5)] [] σ = if a5 < 10 then (if a4 < 0 then (zgd (zin (4 + a1) 320) ((C 166 [.inr (.inr (0, 60))] (zwI σ 0 61 (Int32.toNatClampNeg (4 + a1)) a5)).bind fun x0 => (C 171 [.inr (.inr (0, 60))] x0.2.2).bind fun x1 => if x1.1 = a2 then (zrun C zT_201 16 [some (.inr (.inr (0, 60))), some (.inl a1), some (.inl a2), some (.inl a3), some (.inl a5), some (.inl (a5 + 1))] [] x1.2.2) else (zrun C zT_201 16 [some (.inr (.inr (0, 60))), some (.inl a1), some (.inl a2), some (.inl a3), some (.inl (-3)), some (.inl (a5 + 1))] [] x1.2.2))) else (zgd (zin (4 + a1) 320) (some (a4, 0, zwI σ 0 61 (Int32.toNatClampNeg (4 + a1)) a3)))) else (zgd (zin (4 + a1) 320) (some (a4, 0, zwI σ 0 61 (Int32.toNatClampNeg (4 + a1)) a3))) :=
  (zrun_eq C zT_201 [16] 49 _ _ _ _).trans (by rfl)

/-- X12_windFor ()I -/
theorem ez_202 (d : Nat)  (σ : zM) : zev (d + 1) 202 [.inr (.inr (0, 60))] σ = (fun C : zC => ((C 201 [.inr (.inr (0, 60)), .inl 1, .inl 0] σ).bind fun x0 => some (x0.1, 0, x0.2.2) : zR)) (zev d) :=
  (zev_m (T := zT_202) rfl rfl).trans ((zrun_eq (zev d) zT_202 [] 10 _ _ _ _).trans (by rfl))

/-- X12_sapFor ()I -/
theorem ez_203 (d : Nat)  (σ : zM) : zev (d + 1) 203 [.inr (.inr (0, 60))] σ = (fun C : zC => ((C 201 [.inr (.inr (0, 60)), .inl 0, .inl 1] σ).bind fun x0 => some (x0.1, 0, x0.2.2) : zR)) (zev d) :=
  (zev_m (T := zT_203) rfl rfl).trans ((zrun_eq (zev d) zT_203 [] 10 _ _ _ _).trans (by rfl))

/-- X12_ones (I)I -/
theorem ez_204 (d : Nat) (p0 : Int32) (σ : zM) : zev (d + 1) 204 [.inl p0] σ = (fun C : zC => (zrun C zT_204 4 [some (.inl p0), some (.inl 0), some (.inl p0)] [] σ : zR)) (zev d) :=
  (zev_m (T := zT_204) rfl rfl).trans ((zrun_eq (zev d) zT_204 [4] 21 _ _ _ _).trans (by rfl))
theorem ez_204_4 (C : zC) (d0 : Option zV) (a1 : Int32) (a2 : Int32) (σ : zM) : zrun C zT_204 4 [d0, some (.inl a1), some (.inl a2)] [] σ = if a2 = 0 then (some (a1, 0, σ)) else (zrun C zT_204 4 [none, some (.inl (a1 + 1)), some (.inl (a2 &&& (a2 - 1)))] [] σ) :=
  (zrun_eq C zT_204 [4] 21 _ _ _ _).trans (by rfl)

/-- X12_isParty (I)Z -/
theorem ez_205 (d : Nat) (p0 : Int32) (σ : zM) : zev (d + 1) 205 [.inr (.inr (0, 60)), .inl p0] σ = (fun C : zC => ((C 149 [.inr (.inl (Int32.toInt64 p0)), .inr (.inl 0), .inr (.inl (Int32.toInt64 ((1 <<< ((σ.1 0 61 2) &&& 31)) - 1)))] σ).bind fun x0 => if x0.1 = 0 then (zgd (zret 3 0) (some (0, 0, x0.2.2))) else ((C 204 [.inl p0] x0.2.2).bind fun x1 => if x1.1 < 5 then (zgd (zret 3 1) (some (1, 0, x1.2.2))) else (zgd (zret 3 0) (some (0, 0, x1.2.2)))) : zR)) (zev d) :=
  (zev_m (T := zT_205) rfl rfl).trans ((zrun_eq (zev d) zT_205 [] 27 _ _ _ _).trans (by rfl))

/-- X12_canSeat (I)Z -/
theorem ez_206 (d : Nat) (p0 : Int32) (σ : zM) : zev (d + 1) 206 [.inr (.inr (0, 60)), .inl p0] σ = (fun C : zC => (if p0 = (σ.1 0 60 11) then ((C 171 [.inr (.inr (0, 60))] σ).bind fun x0 => zgd (zret 3 x0.1) (some (x0.1, 0, x0.2.2))) else (zrun C zT_206 15 [some (.inr (.inr (0, 60))), some (.inl p0), some (.inl 0)] [] σ) : zR)) (zev d) :=
  (zev_m (T := zT_206) rfl rfl).trans ((zrun_eq (zev d) zT_206 [15] 48 _ _ _ _).trans (by rfl))
theorem ez_206_15 (C : zC) (a1 : Int32) (a2 : Int32) (σ : zM) : zrun C zT_206 15 [some (.inr (.inr (0, 60))), some (.inl a1), some (.inl a2)] [] σ = if a2 < (σ.1 0 61 0) then ((C 157 [.inr (.inr (0, 60)), .inl a2] σ).bind fun x0 => if x0.1 = 0 then (zgd (zin a1 8) ((C 180 [.inr (.inr (0, 60)), .inl (x0.2.2.1 0 68 (Int32.toNatClampNeg a1)), .inl a2] x0.2.2).bind fun x1 => zgd (zin a1 8) ((C 206 [.inr (.inr (0, 60)), .inl (a1 + 1)] (zwI x1.2.2 0 70 (Int32.toNatClampNeg a1) a2)).bind fun x2 => if x2.1 = 0 then (zrun C zT_206 15 [some (.inr (.inr (0, 60))), some (.inl a1), some (.inl (a2 + 1))] [] x2.2.2) else (zgd (zret 3 1) (some (1, 0, x2.2.2)))))) else (zrun C zT_206 15 [some (.inr (.inr (0, 60))), some (.inl a1), some (.inl (a2 + 1))] [] x0.2.2)) else (zgd (zret 3 0) (some (0, 0, σ))) :=
  (zrun_eq C zT_206 [15] 48 _ _ _ _).trans (by rfl)

/-- X12_findSeating (I)Z -/
theorem ez_207 (d : Nat) (p0 : Int32) (σ : zM) : zev (d + 1) 207 [.inr (.inr (0, 60)), .inl p0] σ = (fun C : zC => (zrun C zT_207 7 [some (.inr (.inr (0, 60))), some (.inl p0), some (.inl 0), none] [] (zwI σ 0 60 11 0) : zR)) (zev d) :=
  (zev_m (T := zT_207) rfl rfl).trans ((zrun_eq (zev d) zT_207 [7, 77] 68 _ _ _ _).trans (by rfl))
theorem ez_207_7 (C : zC) (a1 : Int32) (a2 : Int32) (d3 : Option zV) (σ : zM) : zrun C zT_207 7 [some (.inr (.inr (0, 60))), some (.inl a1), some (.inl a2), d3] [] σ = if a2 < (σ.1 0 61 2) then ((C 152 [.inl a1, .inl a2] σ).bind fun x0 => if x0.1 = 0 then (zrun C zT_207 7 [some (.inr (.inr (0, 60))), some (.inl a1), some (.inl (a2 + 1)), none] [] x0.2.2) else (zgd (zin (x0.2.2.1 0 60 11) 8) ((C 179 [.inr (.inr (0, 60)), .inl a2] (zwI x0.2.2 0 68 (Int32.toNatClampNeg (x0.2.2.1 0 60 11)) a2)).bind fun x1 => zgd (zin ((zwI x0.2.2 0 68 (Int32.toNatClampNeg (x0.2.2.1 0 60 11)) a2).1 0 60 11) 8) (zrun C zT_207 7 [some (.inr (.inr (0, 60))), some (.inl a1), some (.inl (a2 + 1)), none] [] (zwI (zwI x1.2.2 0 69 (Int32.toNatClampNeg ((zwI x0.2.2 0 68 (Int32.toNatClampNeg (x0.2.2.1 0 60 11)) a2).1 0 60 11)) x1.1) 0 60 11 (((zwI x1.2.2 0 69 (Int32.toNatClampNeg ((zwI x0.2.2 0 68 (Int32.toNatClampNeg (x0.2.2.1 0 60 11)) a2).1 0 60 11)) x1.1).1 0 60 11) + 1)))))) else ((C 166 [.inr (.inr (0, 60))] σ).bind fun x2 => (C 206 [.inr (.inr (0, 60)), .inl 0] x2.2.2).bind fun x3 => zrun C zT_207 77 [some (.inr (.inr (0, 60))), some (.inl a1), some (.inl x3.1), some (.inl 0)] [] x3.2.2) :=
  (zrun_eq C zT_207 [7, 77] 68 _ _ _ _).trans (by rfl)
theorem ez_207_77 (C : zC) (d1 : Option zV) (a2 : Int32) (a3 : Int32) (σ : zM) : zrun C zT_207 77 [some (.inr (.inr (0, 60))), d1, some (.inl a2), some (.inl a3)] [] σ = if a3 < (σ.1 0 60 11) then (zgd (zin a3 8) (zgd (zin a3 8) ((C 180 [.inr (.inr (0, 60)), .inl (σ.1 0 68 (Int32.toNatClampNeg a3)), .inl (σ.1 0 69 (Int32.toNatClampNeg a3))] σ).bind fun x0 => zrun C zT_207 77 [some (.inr (.inr (0, 60))), none, some (.inl a2), some (.inl (a3 + 1))] [] x0.2.2))) else (zgd (zret 3 a2) (some (a2, 0, σ))) :=
  (zrun_eq C zT_207 [7, 77] 68 _ _ _ _).trans (by rfl)

/-- X12_seat (II)I -/
theorem ez_208 (d : Nat) (p0 : Int32) (p1 : Int32) (σ : zM) : zev (d + 1) 208 [.inr (.inr (0, 60)), .inl p0, .inl p1] σ = (fun C : zC => ((C 205 [.inr (.inr (0, 60)), .inl p0] σ).bind fun x0 => if x0.1 = 0 then (some ((-1), 0, x0.2.2)) else ((C 149 [.inr (.inl (Int32.toInt64 p1)), .inr (.inl 0), .inr (.inl 3)] x0.2.2).bind fun x1 => if x1.1 = 0 then (some ((-1), 0, x1.2.2)) else ((C 207 [.inr (.inr (0, 60)), .inl p0] x1.2.2).bind fun x2 => if x2.1 = 0 then (some ((-3), 0, x2.2.2)) else (if p1 < (x2.2.2.1 0 60 11) then (zgd (zin p1 8) (some ((x2.2.2.1 0 70 (Int32.toNatClampNeg p1)), 0, x2.2.2))) else (some ((-3), 0, x2.2.2))))) : zR)) (zev d) :=
  (zev_m (T := zT_208) rfl rfl).trans ((zrun_eq (zev d) zT_208 [] 32 _ _ _ _).trans (by rfl))

/-- X12_seatAll (I)I -/
theorem ez_209 (d : Nat) (p0 : Int32) (σ : zM) : zev (d + 1) 209 [.inr (.inr (0, 60)), .inl p0] σ = (fun C : zC => ((C 205 [.inr (.inr (0, 60)), .inl p0] σ).bind fun x0 => if x0.1 = 0 then (some ((-1), 0, x0.2.2)) else ((C 207 [.inr (.inr (0, 60)), .inl p0] x0.2.2).bind fun x1 => if x1.1 = 0 then (some ((-3), 0, x1.2.2)) else (zrun C zT_209 23 [some (.inr (.inr (0, 60))), some (.inl p0), some (.inl 0)] [] x1.2.2)) : zR)) (zev d) :=
  (zev_m (T := zT_209) rfl rfl).trans ((zrun_eq (zev d) zT_209 [23] 38 _ _ _ _).trans (by rfl))
theorem ez_209_23 (C : zC) (d1 : Option zV) (a2 : Int32) (σ : zM) : zrun C zT_209 23 [some (.inr (.inr (0, 60))), d1, some (.inl a2)] [] σ = if a2 < (σ.1 0 60 11) then (zgd (zin a2 8) (zgd (zin a2 8) ((C 180 [.inr (.inr (0, 60)), .inl (σ.1 0 68 (Int32.toNatClampNeg a2)), .inl (σ.1 0 70 (Int32.toNatClampNeg a2))] σ).bind fun x0 => zrun C zT_209 23 [some (.inr (.inr (0, 60))), none, some (.inl (a2 + 1))] [] x0.2.2))) else (some ((σ.1 0 60 11), 0, σ)) :=
  (zrun_eq C zT_209 [23] 38 _ _ _ _).trans (by rfl)

/-- X12_idler (I)I -/
theorem ez_210 (d : Nat) (p0 : Int32) (σ : zM) : zev (d + 1) 210 [.inr (.inr (0, 60)), .inl p0] σ = (fun C : zC => (zrun C zT_210 2 [some (.inr (.inr (0, 60))), some (.inl p0), some (.inl 0)] [] σ : zR)) (zev d) :=
  (zev_m (T := zT_210) rfl rfl).trans ((zrun_eq (zev d) zT_210 [2] 29 _ _ _ _).trans (by rfl))
theorem ez_210_2 (C : zC) (a1 : Int32) (a2 : Int32) (σ : zM) : zrun C zT_210 2 [some (.inr (.inr (0, 60))), some (.inl a1), some (.inl a2)] [] σ = if a2 < (σ.1 0 61 2) then ((C 178 [.inr (.inr (0, 60)), .inl a2, .inl 1] σ).bind fun x0 => if x0.1 = a1 then ((C 179 [.inr (.inr (0, 60)), .inl a2] x0.2.2).bind fun x1 => if x1.1 < 0 then (some (a2, 0, x1.2.2)) else (zrun C zT_210 2 [some (.inr (.inr (0, 60))), some (.inl a1), some (.inl (a2 + 1))] [] x1.2.2)) else (zrun C zT_210 2 [some (.inr (.inr (0, 60))), some (.inl a1), some (.inl (a2 + 1))] [] x0.2.2)) else (some ((-1), 0, σ)) :=
  (zrun_eq C zT_210 [2] 29 _ _ _ _).trans (by rfl)

/-- X12_worthOf (II)I -/
theorem ez_211 (d : Nat) (p0 : Int32) (p1 : Int32) (σ : zM) : zev (d + 1) 211 [.inl p0, .inl p1] σ = (fun C : zC => (if p1 = 2 then (some (1, 0, σ)) else (if p1 = p0 then (some (2, 0, σ)) else (some (0, 0, σ))) : zR)) (zev d) :=
  (zev_m (T := zT_211) rfl rfl).trans ((zrun_eq (zev d) zT_211 [] 17 _ _ _ _).trans (by rfl))

/-- X12_leadsTo (IIII)I -/
theorem ez_212 (d : Nat) (p0 : Int32) (p1 : Int32) (p2 : Int32) (p3 : Int32) (σ : zM) : zev (d + 1) 212 [.inr (.inr (0, 60)), .inl p0, .inl p1, .inl p2, .inl p3] σ = (fun C : zC => ((C 180 [.inr (.inr (0, 60)), .inl p2, .inl p3] σ).bind fun x0 => (C 171 [.inr (.inr (0, 60))] x0.2.2).bind fun x1 => if x1.1 = 0 then ((C 180 [.inr (.inr (0, 60)), .inl p2, .inl (-1)] x1.2.2).bind fun x2 => some ((1 - p0), 0, x2.2.2)) else ((C 213 [.inr (.inr (0, 60)), .inl (1 - p0), .inl (p1 - 1)] x1.2.2).bind fun x3 => (C 180 [.inr (.inr (0, 60)), .inl p2, .inl (-1)] x3.2.2).bind fun x4 => some (x3.1, 0, x4.2.2)) : zR)) (zev d) :=
  (zev_m (T := zT_212) rfl rfl).trans ((zrun_eq (zev d) zT_212 [] 31 _ _ _ _).trans (by rfl))

/-- X12_valueOf (II)I -/
theorem ez_213 (d : Nat) (p0 : Int32) (p1 : Int32) (σ : zM) : zev (d + 1) 213 [.inr (.inr (0, 60)), .inl p0, .inl p1] σ = (fun C : zC => (if p1 = 0 then (zrun C zT_213 20 [some (.inr (.inr (0, 60))), some (.inl p0), some (.inl p1), some (.inl (-1)), some (.inl (-1)), some (.inl 0), none] [] σ) else ((C 210 [.inr (.inr (0, 60)), .inl p0] σ).bind fun x0 => zrun C zT_213 20 [some (.inr (.inr (0, 60))), some (.inl p0), some (.inl p1), some (.inl x0.1), some (.inl (-1)), some (.inl 0), none] [] x0.2.2) : zR)) (zev d) :=
  (zev_m (T := zT_213) rfl rfl).trans ((zrun_eq (zev d) zT_213 [20] 57 _ _ _ _).trans (by rfl))
theorem ez_213_20 (C : zC) (a1 : Int32) (a2 : Int32) (a3 : Int32) (a4 : Int32) (a5 : Int32) (d6 : Option zV) (σ : zM) : zrun C zT_213 20 [some (.inr (.inr (0, 60))), some (.inl a1), some (.inl a2), some (.inl a3), some (.inl a4), some (.inl a5), d6] [] σ = if a5 < (σ.1 0 61 0) then (if a3 < 0 then (if a4 < 0 then (some (2, 0, σ)) else (some (a4, 0, σ))) else ((C 157 [.inr (.inr (0, 60)), .inl a5] σ).bind fun x0 => if x0.1 = 0 then ((C 212 [.inr (.inr (0, 60)), .inl a1, .inl a2, .inl a3, .inl a5] x0.2.2).bind fun x1 => if a4 < 0 then (zrun C zT_213 20 [some (.inr (.inr (0, 60))), some (.inl a1), some (.inl a2), some (.inl a3), some (.inl x1.1), some (.inl (a5 + 1)), some (.inl x1.1)] [] x1.2.2) else ((C 211 [.inl a1, .inl x1.1] x1.2.2).bind fun x2 => (C 211 [.inl a1, .inl a4] x2.2.2).bind fun x3 => if x3.1 < x2.1 then (zrun C zT_213 20 [some (.inr (.inr (0, 60))), some (.inl a1), some (.inl a2), some (.inl a3), some (.inl x1.1), some (.inl (a5 + 1)), some (.inl x1.1)] [] x3.2.2) else (zrun C zT_213 20 [some (.inr (.inr (0, 60))), some (.inl a1), some (.inl a2), some (.inl a3), some (.inl a4), some (.inl (a5 + 1)), some (.inl x1.1)] [] x3.2.2))) else (zrun C zT_213 20 [some (.inr (.inr (0, 60))), some (.inl a1), some (.inl a2), some (.inl a3), some (.inl a4), some (.inl (a5 + 1)), none] [] x0.2.2))) else (if a4 < 0 then (some (2, 0, σ)) else (some (a4, 0, σ))) :=
  (zrun_eq C zT_213 [20] 57 _ _ _ _).trans (by rfl)

/-- X12_isGame (II)Z -/
theorem ez_214 (d : Nat) (p0 : Int32) (p1 : Int32) (σ : zM) : zev (d + 1) 214 [.inl p0, .inl p1] σ = (fun C : zC => ((C 149 [.inr (.inl (Int32.toInt64 p0)), .inr (.inl 0), .inr (.inl 1)] σ).bind fun x0 => if x0.1 = 0 then (zgd (zret 3 0) (some (0, 0, x0.2.2))) else ((C 149 [.inr (.inl (Int32.toInt64 p1)), .inr (.inl 1), .inr (.inl 4)] x0.2.2).bind fun x1 => if x1.1 = 0 then (zgd (zret 3 0) (some (0, 0, x1.2.2))) else (zgd (zret 3 1) (some (1, 0, x1.2.2)))) : zR)) (zev d) :=
  (zev_m (T := zT_214) rfl rfl).trans ((zrun_eq (zev d) zT_214 [] 21 _ _ _ _).trans (by rfl))

/-- X12_game (II)I -/
theorem ez_215 (d : Nat) (p0 : Int32) (p1 : Int32) (σ : zM) : zev (d + 1) 215 [.inr (.inr (0, 60)), .inl p0, .inl p1] σ = (fun C : zC => ((C 214 [.inl p0, .inl p1] σ).bind fun x0 => if x0.1 = 0 then (some ((-1), 0, x0.2.2)) else ((C 166 [.inr (.inr (0, 60))] x0.2.2).bind fun x1 => (C 213 [.inr (.inr (0, 60)), .inl p0, .inl p1] x1.2.2).bind fun x2 => some (x2.1, 0, x2.2.2)) : zR)) (zev d) :=
  (zev_m (T := zT_215) rfl rfl).trans ((zrun_eq (zev d) zT_215 [] 18 _ _ _ _).trans (by rfl))
end
section
set_option maxRecDepth 20000
set_option linter.unusedVariables false
/-- X12_move (II)I -/
theorem ez_216 (d : Nat) (p0 : Int32) (p1 : Int32) (σ : zM) : zev (d + 1) 216 [.inr (.inr (0, 60)), .inl p0, .inl p1] σ = (fun C : zC => ((C 214 [.inl p0, .inl p1] σ).bind fun x0 => if x0.1 = 0 then (some ((-1), 0, x0.2.2)) else ((C 166 [.inr (.inr (0, 60))] x0.2.2).bind fun x1 => (C 213 [.inr (.inr (0, 60)), .inl p0, .inl p1] x1.2.2).bind fun x2 => (C 210 [.inr (.inr (0, 60)), .inl p0] x2.2.2).bind fun x3 => zrun C zT_216 31 [some (.inr (.inr (0, 60))), some (.inl p0), some (.inl p1), some (.inl x2.1), some (.inl x3.1), some (.inl 0)] [] x3.2.2) : zR)) (zev d) :=
  (zev_m (T := zT_216) rfl rfl).trans ((zrun_eq (zev d) zT_216 [31] 50 _ _ _ _).trans (by rfl))
theorem ez_216_31 (C : zC) (a1 : Int32) (a2 : Int32) (a3 : Int32) (a4 : Int32) (a5 : Int32) (σ : zM) : zrun C zT_216 31 [some (.inr (.inr (0, 60))), some (.inl a1), some (.inl a2), some (.inl a3), some (.inl a4), some (.inl a5)] [] σ = if a5 < (σ.1 0 61 0) then (if a4 < 0 then (some ((-3), 0, σ)) else ((C 157 [.inr (.inr (0, 60)), .inl a5] σ).bind fun x0 => if x0.1 = 0 then ((C 212 [.inr (.inr (0, 60)), .inl a1, .inl a2, .inl a4, .inl a5] x0.2.2).bind fun x1 => if x1.1 = a3 then (some (a5, 0, x1.2.2)) else (zrun C zT_216 31 [some (.inr (.inr (0, 60))), some (.inl a1), some (.inl a2), some (.inl a3), some (.inl a4), some (.inl (a5 + 1))] [] x1.2.2)) else (zrun C zT_216 31 [some (.inr (.inr (0, 60))), some (.inl a1), some (.inl a2), some (.inl a3), some (.inl a4), some (.inl (a5 + 1))] [] x0.2.2))) else (some ((-3), 0, σ)) :=
  (zrun_eq C zT_216 [31] 50 _ _ _ _).trans (by rfl)

/-- X12_report (II)I -/
theorem ez_217 (d : Nat) (p0 : Int32) (p1 : Int32) (σ : zM) : zev (d + 1) 217 [.inr (.inr (0, 60)), .inl p0, .inl p1] σ = (fun C : zC => ((C 150 [.inr (.inr (0, 60)), .inl p0] σ).bind fun x0 => if x0.1 = 0 then (some ((-1), 0, x0.2.2)) else ((C 149 [.inr (.inl (Int32.toInt64 p1)), .inr (.inl 0), .inr (.inl 1)] x0.2.2).bind fun x1 => if x1.1 = 0 then (some ((-1), 0, x1.2.2)) else (if (x1.2.2.1 0 61 3) = 6 then (some ((-2), 0, x1.2.2)) else (zgd (zin (76 + (2 * (x1.2.2.1 0 61 3))) 320) (zgd (zin ((76 + (2 * ((zwI x1.2.2 0 61 (Int32.toNatClampNeg (76 + (2 * (x1.2.2.1 0 61 3)))) p0).1 0 61 3))) + 1) 320) (some ((((zwI (zwI (zwI x1.2.2 0 61 (Int32.toNatClampNeg (76 + (2 * (x1.2.2.1 0 61 3)))) p0) 0 61 (Int32.toNatClampNeg ((76 + (2 * ((zwI x1.2.2 0 61 (Int32.toNatClampNeg (76 + (2 * (x1.2.2.1 0 61 3)))) p0).1 0 61 3))) + 1)) p1) 0 61 3 (((zwI (zwI x1.2.2 0 61 (Int32.toNatClampNeg (76 + (2 * (x1.2.2.1 0 61 3)))) p0) 0 61 (Int32.toNatClampNeg ((76 + (2 * ((zwI x1.2.2 0 61 (Int32.toNatClampNeg (76 + (2 * (x1.2.2.1 0 61 3)))) p0).1 0 61 3))) + 1)) p1).1 0 61 3) + 1)).1 0 61 3) - 1), 0, zwI (zwI (zwI x1.2.2 0 61 (Int32.toNatClampNeg (76 + (2 * (x1.2.2.1 0 61 3)))) p0) 0 61 (Int32.toNatClampNeg ((76 + (2 * ((zwI x1.2.2 0 61 (Int32.toNatClampNeg (76 + (2 * (x1.2.2.1 0 61 3)))) p0).1 0 61 3))) + 1)) p1) 0 61 3 (((zwI (zwI x1.2.2 0 61 (Int32.toNatClampNeg (76 + (2 * (x1.2.2.1 0 61 3)))) p0) 0 61 (Int32.toNatClampNeg ((76 + (2 * ((zwI x1.2.2 0 61 (Int32.toNatClampNeg (76 + (2 * (x1.2.2.1 0 61 3)))) p0).1 0 61 3))) + 1)) p1).1 0 61 3) + 1))))))) : zR)) (zev d) :=
  (zev_m (T := zT_217) rfl rfl).trans ((zrun_eq (zev d) zT_217 [] 66 _ _ _ _).trans (by rfl))

/-- X12_forget ()I -/
theorem ez_218 (d : Nat)  (σ : zM) : zev (d + 1) 218 [.inr (.inr (0, 60))] σ = (fun C : zC => (some ((σ.1 0 61 3), 0, zwI σ 0 61 3 0) : zR)) (zev d) :=
  (zev_m (T := zT_218) rfl rfl).trans ((zrun_eq (zev d) zT_218 [] 17 _ _ _ _).trans (by rfl))

/-- X12_isCracked (II)Z -/
theorem ez_219 (d : Nat) (p0 : Int32) (p1 : Int32) (σ : zM) : zev (d + 1) 219 [.inr (.inr (0, 60)), .inl p0, .inl p1] σ = (fun C : zC => ((C 168 [.inr (.inr (0, 60))] σ).bind fun x0 => (C 167 [.inr (.inr (0, 60)), .inl p0, .inl p1] x0.2.2).bind fun x1 => zrun C zT_219 15 [some (.inr (.inr (0, 60))), some (.inl p0), some (.inl p1), some (.inl 0), some (.inl 0)] [] x1.2.2 : zR)) (zev d) :=
  (zev_m (T := zT_219) rfl rfl).trans ((zrun_eq (zev d) zT_219 [15] 35 _ _ _ _).trans (by rfl))
theorem ez_219_15 (C : zC) (d1 : Option zV) (d2 : Option zV) (a3 : Int32) (a4 : Int32) (σ : zM) : zrun C zT_219 15 [some (.inr (.inr (0, 60))), d1, d2, some (.inl a3), some (.inl a4)] [] σ = if a4 < (σ.1 0 61 0) then (if a3 = 0 then ((C 169 [.inr (.inr (0, 60)), .inl a4] σ).bind fun x0 => if x0.1 = 0 then (zrun C zT_219 15 [some (.inr (.inr (0, 60))), none, none, some (.inl 0), some (.inl (a4 + 1))] [] x0.2.2) else (zrun C zT_219 15 [some (.inr (.inr (0, 60))), none, none, some (.inl 1), some (.inl (a4 + 1))] [] x0.2.2)) else (zrun C zT_219 15 [some (.inr (.inr (0, 60))), none, none, some (.inl 1), some (.inl (a4 + 1))] [] σ)) else (zgd (zret 3 a3) (some (a3, 0, σ))) :=
  (zrun_eq C zT_219 [15] 35 _ _ _ _).trans (by rfl)

/-- X12_findFits (I)V -/
theorem ez_220 (d : Nat) (p0 : Int32) (σ : zM) : zev (d + 1) 220 [.inr (.inr (0, 60)), .inl p0] σ = (fun C : zC => ((C 166 [.inr (.inr (0, 60))] σ).bind fun x0 => zrun C zT_220 11 [some (.inr (.inr (0, 60))), some (.inl p0), some (.inl 1), none, none, none] [] (zwI x0.2.2 0 60 12 0) : zR)) (zev d) :=
  (zev_m (T := zT_220) rfl rfl).trans ((zrun_eq (zev d) zT_220 [11, 23, 112] 92 _ _ _ _).trans (by rfl))
theorem ez_220_11 (C : zC) (a1 : Int32) (a2 : Int32) (d3 : Option zV) (d4 : Option zV) (d5 : Option zV) (σ : zM) : zrun C zT_220 11 [some (.inr (.inr (0, 60))), some (.inl a1), some (.inl a2), d3, d4, d5] [] σ = if a2 < 201 then (zrun C zT_220 23 [some (.inr (.inr (0, 60))), some (.inl a1), some (.inl a2), some (.inl 1), some (.inl 0), none] [] σ) else (some (0, 0, σ)) :=
  (zrun_eq C zT_220 [11, 23, 112] 92 _ _ _ _).trans (by rfl)
theorem ez_220_23 (C : zC) (a1 : Int32) (a2 : Int32) (a3 : Int32) (a4 : Int32) (d5 : Option zV) (σ : zM) : zrun C zT_220 23 [some (.inr (.inr (0, 60))), some (.inl a1), some (.inl a2), some (.inl a3), some (.inl a4), d5] [] σ = if a4 < (σ.1 0 61 3) then (if a3 = 0 then (zrun C zT_220 112 [some (.inr (.inr (0, 60))), some (.inl a1), some (.inl a2), some (.inl a3), some (.inl a4), none] [] σ) else (zgd (zin (76 + (2 * a4)) 320) (if a4 = a1 then (zrun C zT_220 23 [some (.inr (.inr (0, 60))), some (.inl a1), some (.inl a2), some (.inl 1), some (.inl (a4 + 1)), some (.inl (σ.1 0 61 (Int32.toNatClampNeg (76 + (2 * a4)))))] [] σ) else ((C 157 [.inr (.inr (0, 60)), .inl (σ.1 0 61 (Int32.toNatClampNeg (76 + (2 * a4))))] σ).bind fun x0 => if x0.1 = 0 then ((C 219 [.inr (.inr (0, 60)), .inl (σ.1 0 61 (Int32.toNatClampNeg (76 + (2 * a4)))), .inl a2] x0.2.2).bind fun x1 => zgd (zin ((76 + (2 * a4)) + 1) 320) (if (x1.2.2.1 0 61 (Int32.toNatClampNeg ((76 + (2 * a4)) + 1))) = 1 then (if x1.1 = 1 then (zrun C zT_220 23 [some (.inr (.inr (0, 60))), some (.inl a1), some (.inl a2), some (.inl 1), some (.inl (a4 + 1)), some (.inl (σ.1 0 61 (Int32.toNatClampNeg (76 + (2 * a4)))))] [] x1.2.2) else (zrun C zT_220 23 [some (.inr (.inr (0, 60))), some (.inl a1), some (.inl a2), some (.inl 0), some (.inl (a4 + 1)), some (.inl (σ.1 0 61 (Int32.toNatClampNeg (76 + (2 * a4)))))] [] x1.2.2)) else (if x1.1 = 0 then (zrun C zT_220 23 [some (.inr (.inr (0, 60))), some (.inl a1), some (.inl a2), some (.inl 1), some (.inl (a4 + 1)), some (.inl (σ.1 0 61 (Int32.toNatClampNeg (76 + (2 * a4)))))] [] x1.2.2) else (zrun C zT_220 23 [some (.inr (.inr (0, 60))), some (.inl a1), some (.inl a2), some (.inl 0), some (.inl (a4 + 1)), some (.inl (σ.1 0 61 (Int32.toNatClampNeg (76 + (2 * a4)))))] [] x1.2.2)))) else (zrun C zT_220 23 [some (.inr (.inr (0, 60))), some (.inl a1), some (.inl a2), some (.inl 0), some (.inl (a4 + 1)), some (.inl (σ.1 0 61 (Int32.toNatClampNeg (76 + (2 * a4)))))] [] x0.2.2))))) else (zrun C zT_220 112 [some (.inr (.inr (0, 60))), some (.inl a1), some (.inl a2), some (.inl a3), some (.inl a4), none] [] σ) :=
  (zrun_eq C zT_220 [11, 23, 112] 92 _ _ _ _).trans (by rfl)
theorem ez_220_112 (C : zC) (a1 : Int32) (a2 : Int32) (a3 : Int32) (d4 : Option zV) (d5 : Option zV) (σ : zM) : zrun C zT_220 112 [some (.inr (.inr (0, 60))), some (.inl a1), some (.inl a2), some (.inl a3), d4, d5] [] σ = if a3 = 0 then (zrun C zT_220 11 [some (.inr (.inr (0, 60))), some (.inl a1), some (.inl (a2 + 1)), some (.inl a3), none, none] [] σ) else (if (σ.1 0 60 12) = 0 then (zrun C zT_220 11 [some (.inr (.inr (0, 60))), some (.inl a1), some (.inl (a2 + 1)), some (.inl a3), none, none] [] (zwI (zwI (zwI σ 0 60 13 a2) 0 60 14 a2) 0 60 12 (((zwI (zwI σ 0 60 13 a2) 0 60 14 a2).1 0 60 12) + 1))) else (zrun C zT_220 11 [some (.inr (.inr (0, 60))), some (.inl a1), some (.inl (a2 + 1)), some (.inl a3), none, none] [] (zwI (zwI (zwI σ 0 60 13 (σ.1 0 60 13)) 0 60 14 a2) 0 60 12 (((zwI (zwI σ 0 60 13 (σ.1 0 60 13)) 0 60 14 a2).1 0 60 12) + 1)))) :=
  (zrun_eq C zT_220 [11, 23, 112] 92 _ _ _ _).trans (by rfl)

/-- X12_span (I)I -/
theorem ez_221 (d : Nat) (p0 : Int32) (σ : zM) : zev (d + 1) 221 [.inr (.inr (0, 60)), .inl p0] σ = (fun C : zC => ((C 149 [.inr (.inl (Int32.toInt64 p0)), .inr (.inl 0), .inr (.inl 2)] σ).bind fun x0 => if x0.1 = 0 then (some ((-1), 0, x0.2.2)) else ((C 220 [.inr (.inr (0, 60)), .inl (-1)] x0.2.2).bind fun x1 => if p0 = 0 then (some ((x1.2.2.1 0 60 12), 0, x1.2.2)) else (if (x1.2.2.1 0 60 12) = 0 then (some ((-3), 0, x1.2.2)) else (if p0 = 1 then (some ((x1.2.2.1 0 60 13), 0, x1.2.2)) else (some ((x1.2.2.1 0 60 14), 0, x1.2.2))))) : zR)) (zev d) :=
  (zev_m (T := zT_221) rfl rfl).trans ((zrun_eq (zev d) zT_221 [] 35 _ _ _ _).trans (by rfl))

/-- X12_liar ()I -/
theorem ez_222 (d : Nat)  (σ : zM) : zev (d + 1) 222 [.inr (.inr (0, 60))] σ = (fun C : zC => ((C 220 [.inr (.inr (0, 60)), .inl (-1)] σ).bind fun x0 => if (x0.2.2.1 0 60 12) = 0 then (zrun C zT_222 20 [some (.inr (.inr (0, 60))), some (.inl 1), some (.inl 0)] [] x0.2.2) else (zrun C zT_222 20 [some (.inr (.inr (0, 60))), some (.inl 0), some (.inl 0)] [] x0.2.2) : zR)) (zev d) :=
  (zev_m (T := zT_222) rfl rfl).trans ((zrun_eq (zev d) zT_222 [20] 37 _ _ _ _).trans (by rfl))
theorem ez_222_20 (C : zC) (a1 : Int32) (a2 : Int32) (σ : zM) : zrun C zT_222 20 [some (.inr (.inr (0, 60))), some (.inl a1), some (.inl a2)] [] σ = if a2 < (σ.1 0 61 3) then (if a1 = 0 then (some ((-3), 0, σ)) else ((C 220 [.inr (.inr (0, 60)), .inl a2] σ).bind fun x0 => if 0 < (x0.2.2.1 0 60 12) then (some (a2, 0, x0.2.2)) else (zrun C zT_222 20 [some (.inr (.inr (0, 60))), some (.inl a1), some (.inl (a2 + 1))] [] x0.2.2))) else (some ((-3), 0, σ)) :=
  (zrun_eq C zT_222 [20] 37 _ _ _ _).trans (by rfl)

/-- X12_seed (I)I -/
theorem ez_223 (d : Nat) (p0 : Int32) (σ : zM) : zev (d + 1) 223 [.inr (.inr (0, 60)), .inl p0] σ = (fun C : zC => (some ((σ.1 0 61 6), 0, zwI σ 0 61 6 p0) : zR)) (zev d) :=
  (zev_m (T := zT_223) rfl rfl).trans ((zrun_eq (zev d) zT_223 [] 17 _ _ _ _).trans (by rfl))

/-- X12_draw ()I -/
theorem ez_224 (d : Nat)  (σ : zM) : zev (d + 1) 224 [.inr (.inr (0, 60))] σ = (fun C : zC => (zgd (zin 6 320) (some (((zwI (zwI σ 0 61 (Int32.toNatClampNeg 6) (((σ.1 0 61 6) * 1103515245) + 12345)) 0 61 5 ((Int32.toUInt32 ((zwI σ 0 61 (Int32.toNatClampNeg 6) (((σ.1 0 61 6) * 1103515245) + 12345)).1 0 61 6) >>> (Int32.toUInt32 16 &&& Int32.toUInt32 31)).toInt32 - (Int32.toUInt32 ((zwI σ 0 61 (Int32.toNatClampNeg 6) (((σ.1 0 61 6) * 1103515245) + 12345)).1 0 61 6) >>> (Int32.toUInt32 16 &&& Int32.toUInt32 31)).toInt32 / 10 * 10)).1 0 61 5), 0, zwI (zwI σ 0 61 (Int32.toNatClampNeg 6) (((σ.1 0 61 6) * 1103515245) + 12345)) 0 61 5 ((Int32.toUInt32 ((zwI σ 0 61 (Int32.toNatClampNeg 6) (((σ.1 0 61 6) * 1103515245) + 12345)).1 0 61 6) >>> (Int32.toUInt32 16 &&& Int32.toUInt32 31)).toInt32 - (Int32.toUInt32 ((zwI σ 0 61 (Int32.toNatClampNeg 6) (((σ.1 0 61 6) * 1103515245) + 12345)).1 0 61 6) >>> (Int32.toUInt32 16 &&& Int32.toUInt32 31)).toInt32 / 10 * 10))) : zR)) (zev d) :=
  (zev_m (T := zT_224) rfl rfl).trans ((zrun_eq (zev d) zT_224 [] 34 _ _ _ _).trans (by rfl))

/-- X12_often (I)I -/
theorem ez_225 (d : Nat) (p0 : Int32) (σ : zM) : zev (d + 1) 225 [.inr (.inr (0, 60)), .inl p0] σ = (fun C : zC => ((C 149 [.inr (.inl (Int32.toInt64 p0)), .inr (.inl 1), .inr (.inl 60)] σ).bind fun x0 => if x0.1 = 0 then (some ((-1), 0, x0.2.2)) else (zrun C zT_225 35 [some (.inr (.inr (0, 60))), some (.inl p0), some (.inl (x0.2.2.1 0 61 6)), some (.inl (x0.2.2.1 0 61 5)), some (.inl 0), some (.inl 0)] [] x0.2.2) : zR)) (zev d) :=
  (zev_m (T := zT_225) rfl rfl).trans ((zrun_eq (zev d) zT_225 [35] 61 _ _ _ _).trans (by rfl))
theorem ez_225_35 (C : zC) (a1 : Int32) (a2 : Int32) (a3 : Int32) (a4 : Int32) (a5 : Int32) (σ : zM) : zrun C zT_225 35 [some (.inr (.inr (0, 60))), some (.inl a1), some (.inl a2), some (.inl a3), some (.inl a4), some (.inl a5)] [] σ = if a5 < a1 then ((C 224 [.inr (.inr (0, 60))] σ).bind fun x0 => (C 166 [.inr (.inr (0, 60))] (zwI x0.2.2 0 61 5 x0.1)).bind fun x1 => (C 171 [.inr (.inr (0, 60))] x1.2.2).bind fun x2 => if x2.1 = 0 then (zrun C zT_225 35 [some (.inr (.inr (0, 60))), some (.inl a1), some (.inl a2), some (.inl a3), some (.inl (a4 + 1)), some (.inl (a5 + 1))] [] x2.2.2) else (zrun C zT_225 35 [some (.inr (.inr (0, 60))), some (.inl a1), some (.inl a2), some (.inl a3), some (.inl (a4 + 0)), some (.inl (a5 + 1))] [] x2.2.2)) else (some (a4, 0, zwI (zwI σ 0 61 6 a2) 0 61 5 a3)) :=
  (zrun_eq C zT_225 [35] 61 _ _ _ _).trans (by rfl)

/-- X12_prove (I)I -/
theorem ez_226 (d : Nat) (p0 : Int32) (σ : zM) : zev (d + 1) 226 [.inr (.inr (0, 60)), .inl p0] σ = (fun C : zC => ((C 150 [.inr (.inr (0, 60)), .inl p0] σ).bind fun x0 => if x0.1 = 0 then (some ((-1), 0, x0.2.2)) else ((C 172 [.inr (.inr (0, 60))] x0.2.2).bind fun x1 => zrun C zT_226 21 [some (.inr (.inr (0, 60))), some (.inl p0), some (.inl p0)] [] (zwI x1.2.2 0 60 16 0)) : zR)) (zev d) :=
  (zev_m (T := zT_226) rfl rfl).trans ((zrun_eq (zev d) zT_226 [21] 68 _ _ _ _).trans (by rfl))
theorem ez_226_21 (C : zC) (d1 : Option zV) (a2 : Int32) (σ : zM) : zrun C zT_226 21 [some (.inr (.inr (0, 60))), d1, some (.inl a2)] [] σ = if a2 < 0 then (some ((σ.1 0 60 16), 0, σ)) else (zgd (zin (3 * (σ.1 0 60 16)) 27) (zgd (zin a2 9) (zgd (zin ((3 * ((zwI σ 0 71 (Int32.toNatClampNeg (3 * (σ.1 0 60 16))) a2).1 0 60 16)) + 1) 27) (zgd (zin a2 9) (zgd (zin ((3 * ((zwI (zwI σ 0 71 (Int32.toNatClampNeg (3 * (σ.1 0 60 16))) a2) 0 71 (Int32.toNatClampNeg ((3 * ((zwI σ 0 71 (Int32.toNatClampNeg (3 * (σ.1 0 60 16))) a2).1 0 60 16)) + 1)) ((zwI σ 0 71 (Int32.toNatClampNeg (3 * (σ.1 0 60 16))) a2).1 0 66 (Int32.toNatClampNeg a2))).1 0 60 16)) + 2) 27) ((C 158 [.inr (.inr (0, 60)), .inl a2] (zwI (zwI (zwI (zwI σ 0 71 (Int32.toNatClampNeg (3 * (σ.1 0 60 16))) a2) 0 71 (Int32.toNatClampNeg ((3 * ((zwI σ 0 71 (Int32.toNatClampNeg (3 * (σ.1 0 60 16))) a2).1 0 60 16)) + 1)) ((zwI σ 0 71 (Int32.toNatClampNeg (3 * (σ.1 0 60 16))) a2).1 0 66 (Int32.toNatClampNeg a2))) 0 71 (Int32.toNatClampNeg ((3 * ((zwI (zwI σ 0 71 (Int32.toNatClampNeg (3 * (σ.1 0 60 16))) a2) 0 71 (Int32.toNatClampNeg ((3 * ((zwI σ 0 71 (Int32.toNatClampNeg (3 * (σ.1 0 60 16))) a2).1 0 60 16)) + 1)) ((zwI σ 0 71 (Int32.toNatClampNeg (3 * (σ.1 0 60 16))) a2).1 0 66 (Int32.toNatClampNeg a2))).1 0 60 16)) + 2)) ((zwI (zwI σ 0 71 (Int32.toNatClampNeg (3 * (σ.1 0 60 16))) a2) 0 71 (Int32.toNatClampNeg ((3 * ((zwI σ 0 71 (Int32.toNatClampNeg (3 * (σ.1 0 60 16))) a2).1 0 60 16)) + 1)) ((zwI σ 0 71 (Int32.toNatClampNeg (3 * (σ.1 0 60 16))) a2).1 0 66 (Int32.toNatClampNeg a2))).1 0 65 (Int32.toNatClampNeg a2))) 0 60 16 (((zwI (zwI (zwI σ 0 71 (Int32.toNatClampNeg (3 * (σ.1 0 60 16))) a2) 0 71 (Int32.toNatClampNeg ((3 * ((zwI σ 0 71 (Int32.toNatClampNeg (3 * (σ.1 0 60 16))) a2).1 0 60 16)) + 1)) ((zwI σ 0 71 (Int32.toNatClampNeg (3 * (σ.1 0 60 16))) a2).1 0 66 (Int32.toNatClampNeg a2))) 0 71 (Int32.toNatClampNeg ((3 * ((zwI (zwI σ 0 71 (Int32.toNatClampNeg (3 * (σ.1 0 60 16))) a2) 0 71 (Int32.toNatClampNeg ((3 * ((zwI σ 0 71 (Int32.toNatClampNeg (3 * (σ.1 0 60 16))) a2).1 0 60 16)) + 1)) ((zwI σ 0 71 (Int32.toNatClampNeg (3 * (σ.1 0 60 16))) a2).1 0 66 (Int32.toNatClampNeg a2))).1 0 60 16)) + 2)) ((zwI (zwI σ 0 71 (Int32.toNatClampNeg (3 * (σ.1 0 60 16))) a2) 0 71 (Int32.toNatClampNeg ((3 * ((zwI σ 0 71 (Int32.toNatClampNeg (3 * (σ.1 0 60 16))) a2).1 0 60 16)) + 1)) ((zwI σ 0 71 (Int32.toNatClampNeg (3 * (σ.1 0 60 16))) a2).1 0 66 (Int32.toNatClampNeg a2))).1 0 65 (Int32.toNatClampNeg a2))).1 0 60 16) + 1))).bind fun x0 => zrun C zT_226 21 [some (.inr (.inr (0, 60))), none, some (.inl x0.1)] [] x0.2.2)))))) :=
  (zrun_eq C zT_226 [21] 68 _ _ _ _).trans (by rfl)

/-- X12_isRow (II)Z -/
theorem ez_227 (d : Nat) (p0 : Int32) (p1 : Int32) (σ : zM) : zev (d + 1) 227 [.inr (.inr (0, 60)), .inl p0, .inl p1] σ = (fun C : zC => ((C 149 [.inr (.inl (Int32.toInt64 p0)), .inr (.inl 0), .inr (.inl (Int32.toInt64 ((σ.1 0 60 16) - 1)))] σ).bind fun x0 => if x0.1 = 0 then (zgd (zret 3 0) (some (0, 0, x0.2.2))) else ((C 149 [.inr (.inl (Int32.toInt64 p1)), .inr (.inl 0), .inr (.inl 2)] x0.2.2).bind fun x1 => if x1.1 = 0 then (zgd (zret 3 0) (some (0, 0, x1.2.2))) else (zgd (zret 3 1) (some (1, 0, x1.2.2)))) : zR)) (zev d) :=
  (zev_m (T := zT_227) rfl rfl).trans ((zrun_eq (zev d) zT_227 [] 25 _ _ _ _).trans (by rfl))

/-- X12_row (II)I -/
theorem ez_228 (d : Nat) (p0 : Int32) (p1 : Int32) (σ : zM) : zev (d + 1) 228 [.inr (.inr (0, 60)), .inl p0, .inl p1] σ = (fun C : zC => ((C 227 [.inr (.inr (0, 60)), .inl p0, .inl p1] σ).bind fun x0 => if x0.1 = 0 then (some ((-9), 0, x0.2.2)) else (zgd (zin ((3 * p0) + p1) 27) (some ((x0.2.2.1 0 71 (Int32.toNatClampNeg ((3 * p0) + p1))), 0, x0.2.2))) : zR)) (zev d) :=
  (zev_m (T := zT_228) rfl rfl).trans ((zrun_eq (zev d) zT_228 [] 21 _ _ _ _).trans (by rfl))

/-- X12_alterRow (III)I -/
theorem ez_229 (d : Nat) (p0 : Int32) (p1 : Int32) (p2 : Int32) (σ : zM) : zev (d + 1) 229 [.inr (.inr (0, 60)), .inl p0, .inl p1, .inl p2] σ = (fun C : zC => ((C 227 [.inr (.inr (0, 60)), .inl p0, .inl p1] σ).bind fun x0 => if x0.1 = 0 then (some ((-9), 0, x0.2.2)) else (zgd (zin ((3 * p0) + p1) 27) (zgd (zin ((3 * p0) + p1) 27) (some ((x0.2.2.1 0 71 (Int32.toNatClampNeg ((3 * p0) + p1))), 0, zwI x0.2.2 0 71 (Int32.toNatClampNeg ((3 * p0) + p1)) p2)))) : zR)) (zev d) :=
  (zev_m (T := zT_229) rfl rfl).trans ((zrun_eq (zev d) zT_229 [] 32 _ _ _ _).trans (by rfl))

/-- X12_judge ()I -/
theorem ez_230 (d : Nat)  (σ : zM) : zev (d + 1) 230 [.inr (.inr (0, 60))] σ = (fun C : zC => ((C 172 [.inr (.inr (0, 60))] σ).bind fun x0 => zrun C zT_230 6 [some (.inr (.inr (0, 60))), some (.inl 0), none] [] x0.2.2 : zR)) (zev d) :=
  (zev_m (T := zT_230) rfl rfl).trans ((zrun_eq (zev d) zT_230 [6, 53] 82 _ _ _ _).trans (by rfl))
theorem ez_230_6 (C : zC) (a1 : Int32) (d2 : Option zV) (σ : zM) : zrun C zT_230 6 [some (.inr (.inr (0, 60))), some (.inl a1), d2] [] σ = if a1 < (σ.1 0 60 16) then (zgd (zin (3 * a1) 27) ((C 150 [.inr (.inr (0, 60)), .inl (σ.1 0 71 (Int32.toNatClampNeg (3 * a1)))] σ).bind fun x0 => if x0.1 = 0 then (some ((a1 + 1), 0, x0.2.2)) else (if 0 < a1 then (zgd (zin ((3 * a1) - 3) 27) ((C 158 [.inr (.inr (0, 60)), .inl (x0.2.2.1 0 71 (Int32.toNatClampNeg ((3 * a1) - 3)))] x0.2.2).bind fun x1 => if (σ.1 0 71 (Int32.toNatClampNeg (3 * a1))) = x1.1 then (zrun C zT_230 53 [some (.inr (.inr (0, 60))), some (.inl a1), some (.inl (σ.1 0 71 (Int32.toNatClampNeg (3 * a1))))] [] x1.2.2) else (some ((a1 + 1), 0, x1.2.2)))) else (zrun C zT_230 53 [some (.inr (.inr (0, 60))), some (.inl a1), some (.inl (σ.1 0 71 (Int32.toNatClampNeg (3 * a1))))] [] x0.2.2)))) else (some (0, 0, σ)) :=
  (zrun_eq C zT_230 [6, 53] 82 _ _ _ _).trans (by rfl)
theorem ez_230_53 (C : zC) (a1 : Int32) (a2 : Int32) (σ : zM) : zrun C zT_230 53 [some (.inr (.inr (0, 60))), some (.inl a1), some (.inl a2)] [] σ = zgd (zin ((3 * a1) + 1) 27) (zgd (zin a2 9) (if (σ.1 0 71 (Int32.toNatClampNeg ((3 * a1) + 1))) = (σ.1 0 66 (Int32.toNatClampNeg a2)) then (zgd (zin ((3 * a1) + 2) 27) (zgd (zin a2 9) (if (σ.1 0 71 (Int32.toNatClampNeg ((3 * a1) + 2))) = (σ.1 0 65 (Int32.toNatClampNeg a2)) then (if a1 = ((σ.1 0 60 16) - 1) then ((C 158 [.inr (.inr (0, 60)), .inl a2] σ).bind fun x0 => if x0.1 < 0 then (zrun C zT_230 6 [some (.inr (.inr (0, 60))), some (.inl (a1 + 1)), some (.inl a2)] [] x0.2.2) else (some ((a1 + 1), 0, x0.2.2))) else (zrun C zT_230 6 [some (.inr (.inr (0, 60))), some (.inl (a1 + 1)), some (.inl a2)] [] σ)) else (some ((a1 + 1), 0, σ))))) else (some ((a1 + 1), 0, σ)))) :=
  (zrun_eq C zT_230 [6, 53] 82 _ _ _ _).trans (by rfl)

/-- X12_feed (JI)I -/
theorem ez_231 (d : Nat) (p0 : Int64) (p1 : Int32) (σ : zM) : zev (d + 1) 231 [.inr (.inr (0, 60)), .inr (.inl p0), .inl p1] σ = (fun C : zC => ((C 149 [.inr (.inl (Int32.toInt64 p1)), .inr (.inl 1), .inr (.inl 8)] σ).bind fun x0 => if x0.1 = 0 then (some ((-1), 0, x0.2.2)) else (if 200 < ((x0.2.2.1 0 60 18) + p1) then (some ((-2), 0, x0.2.2)) else (zrun C zT_231 32 [some (.inr (.inr (0, 60))), some (.inr (.inl p0)), none, some (.inl p1), some (.inl 0)] [] x0.2.2)) : zR)) (zev d) :=
  (zev_m (T := zT_231) rfl rfl).trans ((zrun_eq (zev d) zT_231 [32] 50 _ _ _ _).trans (by rfl))
theorem ez_231_32 (C : zC) (a1 : Int64) (d2 : Option zV) (a3 : Int32) (a4 : Int32) (σ : zM) : zrun C zT_231 32 [some (.inr (.inr (0, 60))), some (.inr (.inl a1)), d2, some (.inl a3), some (.inl a4)] [] σ = if a4 < a3 then (zgd (zin (σ.1 0 60 18) 200) (zrun C zT_231 32 [some (.inr (.inr (0, 60))), some (.inr (.inl a1)), none, some (.inl a3), some (.inl (a4 + 1))] [] (zwI (zwI σ 0 72 (Int32.toNatClampNeg (σ.1 0 60 18)) (Int64.toInt32 ((a1 >>> (Int32.toInt64 (8 * a4) &&& 63)) &&& 255))) 0 60 18 (((zwI σ 0 72 (Int32.toNatClampNeg (σ.1 0 60 18)) (Int64.toInt32 ((a1 >>> (Int32.toInt64 (8 * a4) &&& 63)) &&& 255))).1 0 60 18) + 1)))) else (some ((σ.1 0 60 18), 0, σ)) :=
  (zrun_eq C zT_231 [32] 50 _ _ _ _).trans (by rfl)

/-- X12_byteAt (I)I -/
theorem ez_232 (d : Nat) (p0 : Int32) (σ : zM) : zev (d + 1) 232 [.inr (.inr (0, 60)), .inl p0] σ = (fun C : zC => (if p0 < (σ.1 0 60 18) then (zgd (zin p0 200) (some ((σ.1 0 72 (Int32.toNatClampNeg p0)), 0, σ))) else (some ((-1), 0, σ)) : zR)) (zev d) :=
  (zev_m (T := zT_232) rfl rfl).trans ((zrun_eq (zev d) zT_232 [] 16 _ _ _ _).trans (by rfl))

/-- X12_isLetter (I)Z -/
theorem ez_233 (d : Nat) (p0 : Int32) (σ : zM) : zev (d + 1) 233 [.inl p0] σ = (fun C : zC => ((C 149 [.inr (.inl (Int32.toInt64 p0)), .inr (.inl 97), .inr (.inl 122)] σ).bind fun x0 => zgd (zret 3 x0.1) (some (x0.1, 0, x0.2.2)) : zR)) (zev d) :=
  (zev_m (T := zT_233) rfl rfl).trans ((zrun_eq (zev d) zT_233 [] 11 _ _ _ _).trans (by rfl))

/-- X12_isDigit (I)Z -/
theorem ez_234 (d : Nat) (p0 : Int32) (σ : zM) : zev (d + 1) 234 [.inl p0] σ = (fun C : zC => ((C 149 [.inr (.inl (Int32.toInt64 p0)), .inr (.inl 48), .inr (.inl 57)] σ).bind fun x0 => zgd (zret 3 x0.1) (some (x0.1, 0, x0.2.2)) : zR)) (zev d) :=
  (zev_m (T := zT_234) rfl rfl).trans ((zrun_eq (zev d) zT_234 [] 11 _ _ _ _).trans (by rfl))

/-- X12_token ()V -/
theorem ez_235 (d : Nat)  (σ : zM) : zev (d + 1) 235 [.inr (.inr (0, 60))] σ = (fun C : zC => (zrun C zT_235 8 [some (.inr (.inr (0, 60))), none, none] [] (zwI σ 0 60 19 (σ.1 0 60 20)) : zR)) (zev d) :=
  (zev_m (T := zT_235) rfl rfl).trans ((zrun_eq (zev d) zT_235 [8, 86, 104] 72 _ _ _ _).trans (by rfl))
theorem ez_235_8 (C : zC) (d1 : Option zV) (d2 : Option zV) (σ : zM) : zrun C zT_235 8 [some (.inr (.inr (0, 60))), d1, d2] [] σ = (C 232 [.inr (.inr (0, 60)), .inl (σ.1 0 60 19)] σ).bind fun x0 => if x0.1 = 32 then (zrun C zT_235 8 [some (.inr (.inr (0, 60))), none, none] [] (zwI x0.2.2 0 60 19 ((x0.2.2.1 0 60 19) + 1))) else ((C 232 [.inr (.inr (0, 60)), .inl (x0.2.2.1 0 60 19)] x0.2.2).bind fun x1 => (C 233 [.inl x1.1] x1.2.2).bind fun x2 => (C 232 [.inr (.inr (0, 60)), .inl (x2.2.2.1 0 60 19)] x2.2.2).bind fun x3 => (C 234 [.inl x3.1] x3.2.2).bind fun x4 => if (x4.2.2.1 0 60 19) < (x4.2.2.1 0 60 18) then (zrun C zT_235 86 [some (.inr (.inr (0, 60))), some (.inl x2.1), some (.inl x4.1)] [] (zwI x4.2.2 0 60 20 ((x4.2.2.1 0 60 19) + 1))) else (zrun C zT_235 86 [some (.inr (.inr (0, 60))), some (.inl x2.1), some (.inl x4.1)] [] (zwI x4.2.2 0 60 20 (x4.2.2.1 0 60 19)))) :=
  (zrun_eq C zT_235 [8, 86, 104] 72 _ _ _ _).trans (by rfl)
theorem ez_235_86 (C : zC) (a1 : Int32) (a2 : Int32) (σ : zM) : zrun C zT_235 86 [some (.inr (.inr (0, 60))), some (.inl a1), some (.inl a2)] [] σ = if a1 = 0 then (zrun C zT_235 104 [some (.inr (.inr (0, 60))), some (.inl a1), some (.inl a2)] [] σ) else ((C 232 [.inr (.inr (0, 60)), .inl (σ.1 0 60 20)] σ).bind fun x0 => (C 233 [.inl x0.1] x0.2.2).bind fun x1 => if x1.1 = 0 then (zrun C zT_235 104 [some (.inr (.inr (0, 60))), some (.inl a1), some (.inl a2)] [] x1.2.2) else (zrun C zT_235 86 [some (.inr (.inr (0, 60))), some (.inl a1), some (.inl a2)] [] (zwI x1.2.2 0 60 20 ((x1.2.2.1 0 60 20) + 1)))) :=
  (zrun_eq C zT_235 [8, 86, 104] 72 _ _ _ _).trans (by rfl)
theorem ez_235_104 (C : zC) (a1 : Int32) (a2 : Int32) (σ : zM) : zrun C zT_235 104 [some (.inr (.inr (0, 60))), some (.inl a1), some (.inl a2)] [] σ = if a2 = 0 then (some (0, 0, σ)) else ((C 232 [.inr (.inr (0, 60)), .inl (σ.1 0 60 20)] σ).bind fun x0 => (C 234 [.inl x0.1] x0.2.2).bind fun x1 => if x1.1 = 0 then (some (0, 0, x1.2.2)) else (zrun C zT_235 86 [some (.inr (.inr (0, 60))), some (.inl a1), some (.inl a2)] [] (zwI x1.2.2 0 60 20 ((x1.2.2.1 0 60 20) + 1)))) :=
  (zrun_eq C zT_235 [8, 86, 104] 72 _ _ _ _).trans (by rfl)

/-- X12_needs (Z)V -/
theorem ez_236 (d : Nat) (p0 : Int32) (σ : zM) : zev (d + 1) 236 [.inr (.inr (0, 60)), .inl p0] σ = (fun C : zC => (if (σ.1 0 60 24) = 0 then (if p0 = 0 then (zgd (z01 1) (if ((zwI σ 0 60 24 1).1 0 60 24) = 0 then ((C 235 [.inr (.inr (0, 60))] (zwI σ 0 60 24 1)).bind fun x0 => some (0, 0, x0.2.2)) else (some (0, 0, zwI σ 0 60 24 1)))) else (zgd (z01 0) (if ((zwI σ 0 60 24 0).1 0 60 24) = 0 then ((C 235 [.inr (.inr (0, 60))] (zwI σ 0 60 24 0)).bind fun x1 => some (0, 0, x1.2.2)) else (some (0, 0, zwI σ 0 60 24 0))))) else (zgd (z01 1) (if ((zwI σ 0 60 24 1).1 0 60 24) = 0 then ((C 235 [.inr (.inr (0, 60))] (zwI σ 0 60 24 1)).bind fun x2 => some (0, 0, x2.2.2)) else (some (0, 0, zwI σ 0 60 24 1)))) : zR)) (zev d) :=
  (zev_m (T := zT_236) rfl rfl).trans ((zrun_eq (zev d) zT_236 [] 21 _ _ _ _).trans (by rfl))

/-- X12_word ()J -/
theorem ez_237 (d : Nat)  (σ : zM) : zev (d + 1) 237 [.inr (.inr (0, 60))] σ = (fun C : zC => (zrun C zT_237 7 [some (.inr (.inr (0, 60))), some (.inr (.inl 0)), none, some (.inl (σ.1 0 60 19))] [] σ : zR)) (zev d) :=
  (zev_m (T := zT_237) rfl rfl).trans ((zrun_eq (zev d) zT_237 [7] 47 _ _ _ _).trans (by rfl))
theorem ez_237_7 (C : zC) (a1 : Int64) (d2 : Option zV) (a3 : Int32) (σ : zM) : zrun C zT_237 7 [some (.inr (.inr (0, 60))), some (.inr (.inl a1)), d2, some (.inl a3)] [] σ = if a3 < (σ.1 0 60 20) then (if 0 < (lg_cmp a1 36028797018963967) then (zrun C zT_237 7 [some (.inr (.inr (0, 60))), some (.inr (.inl a1)), none, some (.inl (a3 + 1))] [] σ) else (zgd (zin a3 200) (zrun C zT_237 7 [some (.inr (.inr (0, 60))), some (.inr (.inl ((32 * a1) + (Int32.toInt64 ((σ.1 0 72 (Int32.toNatClampNeg a3)) - 96))))), none, some (.inl (a3 + 1))] [] σ))) else (if (σ.1 0 60 24) = 0 then ((C 232 [.inr (.inr (0, 60)), .inl (σ.1 0 60 19)] σ).bind fun x0 => (C 233 [.inl x0.1] x0.2.2).bind fun x1 => if x1.1 = 0 then (some (0, 0, x1.2.2)) else (some (0, a1, x1.2.2))) else (some (0, 0, σ))) :=
  (zrun_eq C zT_237 [7] 47 _ _ _ _).trans (by rfl)

/-- X12_number (I)V -/
theorem ez_238 (d : Nat) (p0 : Int32) (σ : zM) : zev (d + 1) 238 [.inr (.inr (0, 60)), .inl p0] σ = (fun C : zC => ((C 232 [.inr (.inr (0, 60)), .inl (σ.1 0 60 19)] σ).bind fun x0 => (C 234 [.inl x0.1] x0.2.2).bind fun x1 => if x1.1 = 0 then (zrun C zT_238 43 [some (.inr (.inr (0, 60))), some (.inl p0), some (.inl 0), some (.inl ((zwI x1.2.2 0 60 21 0).1 0 60 19))] [] (zwI x1.2.2 0 60 21 0)) else (if ((x1.2.2.1 0 60 20) - (x1.2.2.1 0 60 19)) < 5 then (zrun C zT_238 43 [some (.inr (.inr (0, 60))), some (.inl p0), some (.inl 1), some (.inl ((zwI x1.2.2 0 60 21 0).1 0 60 19))] [] (zwI x1.2.2 0 60 21 0)) else (zrun C zT_238 43 [some (.inr (.inr (0, 60))), some (.inl p0), some (.inl 0), some (.inl ((zwI x1.2.2 0 60 21 0).1 0 60 19))] [] (zwI x1.2.2 0 60 21 0))) : zR)) (zev d) :=
  (zev_m (T := zT_238) rfl rfl).trans ((zrun_eq (zev d) zT_238 [43] 61 _ _ _ _).trans (by rfl))
theorem ez_238_43 (C : zC) (a1 : Int32) (a2 : Int32) (a3 : Int32) (σ : zM) : zrun C zT_238 43 [some (.inr (.inr (0, 60))), some (.inl a1), some (.inl a2), some (.inl a3)] [] σ = if a3 < (σ.1 0 60 20) then (if a2 = 0 then (if a2 = 0 then ((C 236 [.inr (.inr (0, 60)), .inl 0] σ).bind fun x0 => some (0, 0, x0.2.2)) else (if a1 < (σ.1 0 60 21) then ((C 236 [.inr (.inr (0, 60)), .inl 0] σ).bind fun x1 => some (0, 0, x1.2.2)) else ((C 236 [.inr (.inr (0, 60)), .inl 1] σ).bind fun x2 => some (0, 0, x2.2.2)))) else (zgd (zin a3 200) (zrun C zT_238 43 [some (.inr (.inr (0, 60))), some (.inl a1), some (.inl a2), some (.inl (a3 + 1))] [] (zwI σ 0 60 21 (((10 * (σ.1 0 60 21)) + (σ.1 0 72 (Int32.toNatClampNeg a3))) - 48))))) else (if a2 = 0 then ((C 236 [.inr (.inr (0, 60)), .inl 0] σ).bind fun x3 => some (0, 0, x3.2.2)) else (if a1 < (σ.1 0 60 21) then ((C 236 [.inr (.inr (0, 60)), .inl 0] σ).bind fun x4 => some (0, 0, x4.2.2)) else ((C 236 [.inr (.inr (0, 60)), .inl 1] σ).bind fun x5 => some (0, 0, x5.2.2)))) :=
  (zrun_eq C zT_238 [43] 61 _ _ _ _).trans (by rfl)

/-- X12_kindHere ()I -/
theorem ez_239 (d : Nat)  (σ : zM) : zev (d + 1) 239 [.inr (.inr (0, 60))] σ = (fun C : zC => ((C 237 [.inr (.inr (0, 60))] σ).bind fun x0 => if (lg_cmp x0.2.1 2610408) = 0 then (some (0, 0, x0.2.2)) else (if (lg_cmp x0.2.1 7935150) = 0 then (some (1, 0, x0.2.2)) else (if (lg_cmp x0.2.1 4697) = 0 then (some (2, 0, x0.2.2)) else (if (lg_cmp x0.2.1 15748) = 0 then (some (3, 0, x0.2.2)) else (if (lg_cmp x0.2.1 17800118436) = 0 then (some (4, 0, x0.2.2)) else (if (lg_cmp x0.2.1 11843827) = 0 then (some (5, 0, x0.2.2)) else (some ((-1), 0, x0.2.2))))))) : zR)) (zev d) :=
  (zev_m (T := zT_239) rfl rfl).trans ((zrun_eq (zev d) zT_239 [] 46 _ _ _ _).trans (by rfl))

/-- X12_factHere ()I -/
theorem ez_240 (d : Nat)  (σ : zM) : zev (d + 1) 240 [.inr (.inr (0, 60))] σ = (fun C : zC => ((C 237 [.inr (.inr (0, 60))] σ).bind fun x0 => if (lg_cmp x0.2.1 19504) = 0 then (some ((-1), 0, x0.2.2)) else (if (lg_cmp x0.2.1 763332) = 0 then (some ((-2), 0, x0.2.2)) else (if (lg_cmp x0.2.1 409031) = 0 then (some ((-3), 0, x0.2.2)) else (if (lg_cmp x0.2.1 8892563) = 0 then (some ((-4), 0, x0.2.2)) else (if (lg_cmp x0.2.1 492210354) = 0 then (some ((-5), 0, x0.2.2)) else (some (0, 0, x0.2.2)))))) : zR)) (zev d) :=
  (zev_m (T := zT_240) rfl rfl).trans ((zrun_eq (zev d) zT_240 [] 40 _ _ _ _).trans (by rfl))

/-- X12_writes (I)V -/
theorem ez_241 (d : Nat) (p0 : Int32) (σ : zM) : zev (d + 1) 241 [.inr (.inr (0, 60)), .inl p0] σ = (fun C : zC => (if (σ.1 0 60 24) = 0 then (zgd (zin (120 + (σ.1 0 60 23)) 320) (some (0, 0, zwI (zwI σ 0 61 (Int32.toNatClampNeg (120 + (σ.1 0 60 23))) p0) 0 60 23 (((zwI σ 0 61 (Int32.toNatClampNeg (120 + (σ.1 0 60 23))) p0).1 0 60 23) + 1)))) else (some (0, 0, σ)) : zR)) (zev d) :=
  (zev_m (T := zT_241) rfl rfl).trans ((zrun_eq (zev d) zT_241 [] 23 _ _ _ _).trans (by rfl))

/-- X12_valueHere ()V -/
theorem ez_242 (d : Nat)  (σ : zM) : zev (d + 1) 242 [.inr (.inr (0, 60))] σ = (fun C : zC => ((C 240 [.inr (.inr (0, 60))] σ).bind fun x0 => if x0.1 < 0 then ((C 236 [.inr (.inr (0, 60)), .inl 1] x0.2.2).bind fun x1 => (C 241 [.inr (.inr (0, 60)), .inl x0.1] x1.2.2).bind fun x2 => some (0, 0, x2.2.2)) else (if (x0.2.2.1 0 60 24) = 0 then ((C 238 [.inr (.inr (0, 60)), .inl 9999] x0.2.2).bind fun x3 => (C 241 [.inr (.inr (0, 60)), .inl (x3.2.2.1 0 60 21)] x3.2.2).bind fun x4 => some (0, 0, x4.2.2)) else (some (0, 0, x0.2.2))) : zR)) (zev d) :=
  (zev_m (T := zT_242) rfl rfl).trans ((zrun_eq (zev d) zT_242 [] 28 _ _ _ _).trans (by rfl))

/-- X12_comparison ()V -/
theorem ez_243 (d : Nat)  (σ : zM) : zev (d + 1) 243 [.inr (.inr (0, 60))] σ = (fun C : zC => ((C 242 [.inr (.inr (0, 60))] σ).bind fun x0 => if (x0.2.2.1 0 60 24) = 0 then ((C 232 [.inr (.inr (0, 60)), .inl (x0.2.2.1 0 60 19)] x0.2.2).bind fun x1 => zrun C zT_243 23 [some (.inr (.inr (0, 60))), none] [.inl x1.1] x1.2.2) else (zrun C zT_243 23 [some (.inr (.inr (0, 60))), none] [.inl (-1)] x0.2.2) : zR)) (zev d) :=
  (zev_m (T := zT_243) rfl rfl).trans ((zrun_eq (zev d) zT_243 [23, 43, 48] 47 _ _ _ _).trans (by rfl))
theorem ez_243_23 (C : zC) (d1 : Option zV) (s0 : Int32) (σ : zM) : zrun C zT_243 23 [some (.inr (.inr (0, 60))), d1] [.inl s0] σ = if s0 = 60 then (zrun C zT_243 43 [some (.inr (.inr (0, 60))), some (.inl s0)] [.inr (.inr (0, 60))] σ) else (if s0 = 61 then (zrun C zT_243 43 [some (.inr (.inr (0, 60))), some (.inl s0)] [.inr (.inr (0, 60))] σ) else (if s0 = 62 then (zrun C zT_243 43 [some (.inr (.inr (0, 60))), some (.inl s0)] [.inr (.inr (0, 60))] σ) else (zrun C zT_243 48 [some (.inr (.inr (0, 60))), some (.inl s0)] [.inl 0, .inr (.inr (0, 60))] σ))) :=
  (zrun_eq C zT_243 [23, 43, 48] 47 _ _ _ _).trans (by rfl)
theorem ez_243_43 (C : zC) (a1 : Int32) (σ : zM) : zrun C zT_243 43 [some (.inr (.inr (0, 60))), some (.inl a1)] [.inr (.inr (0, 60))] σ = zrun C zT_243 48 [some (.inr (.inr (0, 60))), some (.inl a1)] [.inl 1, .inr (.inr (0, 60))] σ :=
  (zrun_eq C zT_243 [23, 43, 48] 47 _ _ _ _).trans (by rfl)
theorem ez_243_48 (C : zC) (a1 : Int32) (s0 : Int32) (σ : zM) : zrun C zT_243 48 [some (.inr (.inr (0, 60))), some (.inl a1)] [.inl s0, .inr (.inr (0, 60))] σ = (C 236 [.inr (.inr (0, 60)), .inl s0] σ).bind fun x0 => (C 242 [.inr (.inr (0, 60))] x0.2.2).bind fun x1 => if a1 = 60 then ((C 241 [.inr (.inr (0, 60)), .inl (-11)] x1.2.2).bind fun x2 => some (0, 0, x2.2.2)) else (if a1 = 61 then ((C 241 [.inr (.inr (0, 60)), .inl (-12)] x1.2.2).bind fun x3 => some (0, 0, x3.2.2)) else ((C 241 [.inr (.inr (0, 60)), .inl (-13)] x1.2.2).bind fun x4 => some (0, 0, x4.2.2))) :=
  (zrun_eq C zT_243 [23, 43, 48] 47 _ _ _ _).trans (by rfl)

/-- X12_one ()V -/
theorem ez_244 (d : Nat)  (σ : zM) : zev (d + 1) 244 [.inr (.inr (0, 60))] σ = (fun C : zC => (zrun C zT_244 2 [some (.inr (.inr (0, 60))), some (.inl 0)] [] σ : zR)) (zev d) :=
  (zev_m (T := zT_244) rfl rfl).trans ((zrun_eq (zev d) zT_244 [2, 65] 77 _ _ _ _).trans (by rfl))
theorem ez_244_2 (C : zC) (a1 : Int32) (σ : zM) : zrun C zT_244 2 [some (.inr (.inr (0, 60))), some (.inl a1)] [] σ = (C 237 [.inr (.inr (0, 60))] σ).bind fun x0 => if (lg_cmp x0.2.1 14836) = 0 then (if a1 = 0 then ((C 236 [.inr (.inr (0, 60)), .inl 1] x0.2.2).bind fun x1 => zrun C zT_244 2 [some (.inr (.inr (0, 60))), some (.inl 1)] [] x1.2.2) else ((C 236 [.inr (.inr (0, 60)), .inl 1] x0.2.2).bind fun x2 => zrun C zT_244 2 [some (.inr (.inr (0, 60))), some (.inl 0)] [] x2.2.2)) else (if (x0.2.2.1 0 60 24) = 0 then ((C 232 [.inr (.inr (0, 60)), .inl (x0.2.2.1 0 60 19)] x0.2.2).bind fun x3 => if x3.1 = 40 then (if (x3.2.2.1 0 60 22) < 3 then (zrun C zT_244 65 [some (.inr (.inr (0, 60))), some (.inl a1)] [.inl 1, .inr (.inr (0, 60))] x3.2.2) else (zrun C zT_244 65 [some (.inr (.inr (0, 60))), some (.inl a1)] [.inl 0, .inr (.inr (0, 60))] x3.2.2)) else ((C 243 [.inr (.inr (0, 60))] x3.2.2).bind fun x4 => if a1 = 0 then (some (0, 0, x4.2.2)) else ((C 241 [.inr (.inr (0, 60)), .inl (-20)] x4.2.2).bind fun x5 => some (0, 0, x5.2.2)))) else ((C 243 [.inr (.inr (0, 60))] x0.2.2).bind fun x6 => if a1 = 0 then (some (0, 0, x6.2.2)) else ((C 241 [.inr (.inr (0, 60)), .inl (-20)] x6.2.2).bind fun x7 => some (0, 0, x7.2.2)))) :=
  (zrun_eq C zT_244 [2, 65] 77 _ _ _ _).trans (by rfl)
theorem ez_244_65 (C : zC) (a1 : Int32) (s0 : Int32) (σ : zM) : zrun C zT_244 65 [some (.inr (.inr (0, 60))), some (.inl a1)] [.inl s0, .inr (.inr (0, 60))] σ = (C 236 [.inr (.inr (0, 60)), .inl s0] σ).bind fun x0 => (C 246 [.inr (.inr (0, 60))] (zwI x0.2.2 0 60 22 ((x0.2.2.1 0 60 22) + 1))).bind fun x1 => if ((zwI x1.2.2 0 60 22 ((x1.2.2.1 0 60 22) - 1)).1 0 60 24) = 0 then ((C 232 [.inr (.inr (0, 60)), .inl ((zwI x1.2.2 0 60 22 ((x1.2.2.1 0 60 22) - 1)).1 0 60 19)] (zwI x1.2.2 0 60 22 ((x1.2.2.1 0 60 22) - 1))).bind fun x2 => if x2.1 = 41 then ((C 236 [.inr (.inr (0, 60)), .inl 1] x2.2.2).bind fun x3 => if a1 = 0 then (some (0, 0, x3.2.2)) else ((C 241 [.inr (.inr (0, 60)), .inl (-20)] x3.2.2).bind fun x4 => some (0, 0, x4.2.2))) else ((C 236 [.inr (.inr (0, 60)), .inl 0] x2.2.2).bind fun x5 => if a1 = 0 then (some (0, 0, x5.2.2)) else ((C 241 [.inr (.inr (0, 60)), .inl (-20)] x5.2.2).bind fun x6 => some (0, 0, x6.2.2)))) else ((C 236 [.inr (.inr (0, 60)), .inl 0] (zwI x1.2.2 0 60 22 ((x1.2.2.1 0 60 22) - 1))).bind fun x7 => if a1 = 0 then (some (0, 0, x7.2.2)) else ((C 241 [.inr (.inr (0, 60)), .inl (-20)] x7.2.2).bind fun x8 => some (0, 0, x8.2.2))) :=
  (zrun_eq C zT_244 [2, 65] 77 _ _ _ _).trans (by rfl)

/-- X12_all ()V -/
theorem ez_245 (d : Nat)  (σ : zM) : zev (d + 1) 245 [.inr (.inr (0, 60))] σ = (fun C : zC => ((C 244 [.inr (.inr (0, 60))] σ).bind fun x0 => zrun C zT_245 4 [some (.inr (.inr (0, 60)))] [] x0.2.2 : zR)) (zev d) :=
  (zev_m (T := zT_245) rfl rfl).trans ((zrun_eq (zev d) zT_245 [4] 22 _ _ _ _).trans (by rfl))
theorem ez_245_4 (C : zC)  (σ : zM) : zrun C zT_245 4 [some (.inr (.inr (0, 60)))] [] σ = (C 237 [.inr (.inr (0, 60))] σ).bind fun x0 => if (lg_cmp x0.2.1 1476) = 0 then ((C 236 [.inr (.inr (0, 60)), .inl 1] x0.2.2).bind fun x1 => (C 244 [.inr (.inr (0, 60))] x1.2.2).bind fun x2 => (C 241 [.inr (.inr (0, 60)), .inl (-21)] x2.2.2).bind fun x3 => zrun C zT_245 4 [some (.inr (.inr (0, 60)))] [] x3.2.2) else (some (0, 0, x0.2.2)) :=
  (zrun_eq C zT_245 [4] 22 _ _ _ _).trans (by rfl)

/-- X12_condition ()V -/
theorem ez_246 (d : Nat)  (σ : zM) : zev (d + 1) 246 [.inr (.inr (0, 60))] σ = (fun C : zC => (if (σ.1 0 60 24) = 0 then ((C 245 [.inr (.inr (0, 60))] σ).bind fun x0 => zrun C zT_246 12 [some (.inr (.inr (0, 60)))] [] x0.2.2) else (some (0, 0, σ)) : zR)) (zev d) :=
  (zev_m (T := zT_246) rfl rfl).trans ((zrun_eq (zev d) zT_246 [12] 26 _ _ _ _).trans (by rfl))
theorem ez_246_12 (C : zC)  (σ : zM) : zrun C zT_246 12 [some (.inr (.inr (0, 60)))] [] σ = (C 237 [.inr (.inr (0, 60))] σ).bind fun x0 => if (lg_cmp x0.2.1 498) = 0 then ((C 236 [.inr (.inr (0, 60)), .inl 1] x0.2.2).bind fun x1 => (C 245 [.inr (.inr (0, 60))] x1.2.2).bind fun x2 => (C 241 [.inr (.inr (0, 60)), .inl (-22)] x2.2.2).bind fun x3 => zrun C zT_246 12 [some (.inr (.inr (0, 60)))] [] x3.2.2) else (some (0, 0, x0.2.2)) :=
  (zrun_eq C zT_246 [12] 26 _ _ _ _).trans (by rfl)

/-- X12_rule ()V -/
theorem ez_247 (d : Nat)  (σ : zM) : zev (d + 1) 247 [.inr (.inr (0, 60))] σ = (fun C : zC => ((C 239 [.inr (.inr (0, 60))] σ).bind fun x0 => if x0.1 < 0 then (zrun C zT_247 25 [some (.inr (.inr (0, 60))), some (.inl x0.1), none, none, none, none, none] [.inr (.inr (0, 60))] x0.2.2) else (if (x0.2.2.1 0 61 1) < 8 then (zrun C zT_247 26 [some (.inr (.inr (0, 60))), some (.inl x0.1), none, none, none, none, none] [.inl 1, .inr (.inr (0, 60))] x0.2.2) else (zrun C zT_247 25 [some (.inr (.inr (0, 60))), some (.inl x0.1), none, none, none, none, none] [.inr (.inr (0, 60))] x0.2.2)) : zR)) (zev d) :=
  (zev_m (T := zT_247) rfl rfl).trans ((zrun_eq (zev d) zT_247 [25, 26, 49, 91, 104, 137, 168, 169] 142 _ _ _ _).trans (by rfl))
theorem ez_247_25 (C : zC) (a1 : Int32) (d2 : Option zV) (d3 : Option zV) (d4 : Option zV) (d5 : Option zV) (d6 : Option zV) (σ : zM) : zrun C zT_247 25 [some (.inr (.inr (0, 60))), some (.inl a1), d2, d3, d4, d5, d6] [.inr (.inr (0, 60))] σ = zrun C zT_247 26 [some (.inr (.inr (0, 60))), some (.inl a1), none, none, none, none, none] [.inl 0, .inr (.inr (0, 60))] σ :=
  (zrun_eq C zT_247 [25, 26, 49, 91, 104, 137, 168, 169] 142 _ _ _ _).trans (by rfl)
theorem ez_247_26 (C : zC) (a1 : Int32) (d2 : Option zV) (d3 : Option zV) (d4 : Option zV) (d5 : Option zV) (d6 : Option zV) (s0 : Int32) (σ : zM) : zrun C zT_247 26 [some (.inr (.inr (0, 60))), some (.inl a1), d2, d3, d4, d5, d6] [.inl s0, .inr (.inr (0, 60))] σ = (C 236 [.inr (.inr (0, 60)), .inl s0] σ).bind fun x0 => (C 237 [.inr (.inr (0, 60))] x0.2.2).bind fun x1 => if (lg_cmp x1.2.1 294) = 0 then ((C 236 [.inr (.inr (0, 60)), .inl 1] x1.2.2).bind fun x2 => (C 246 [.inr (.inr (0, 60))] x2.2.2).bind fun x3 => zrun C zT_247 49 [some (.inr (.inr (0, 60))), some (.inl a1), none, none, none, none, none] [] x3.2.2) else (zrun C zT_247 49 [some (.inr (.inr (0, 60))), some (.inl a1), none, none, none, none, none] [] x1.2.2) :=
  (zrun_eq C zT_247 [25, 26, 49, 91, 104, 137, 168, 169] 142 _ _ _ _).trans (by rfl)
theorem ez_247_49 (C : zC) (a1 : Int32) (d2 : Option zV) (d3 : Option zV) (d4 : Option zV) (d5 : Option zV) (d6 : Option zV) (σ : zM) : zrun C zT_247 49 [some (.inr (.inr (0, 60))), some (.inl a1), d2, d3, d4, d5, d6] [] σ = (C 237 [.inr (.inr (0, 60))] σ).bind fun x0 => if (lg_cmp x0.2.1 441925) = 0 then (zrun C zT_247 91 [some (.inr (.inr (0, 60))), some (.inl a1), some (.inr (.inl x0.2.1)), none, none, none, none] [.inl 0] x0.2.2) else (if (lg_cmp x0.2.1 398963) = 0 then (zrun C zT_247 91 [some (.inr (.inr (0, 60))), some (.inl a1), some (.inr (.inl x0.2.1)), none, none, none, none] [.inl 1] x0.2.2) else (if (lg_cmp x0.2.1 3764) = 0 then (zrun C zT_247 91 [some (.inr (.inr (0, 60))), some (.inl a1), some (.inr (.inl x0.2.1)), none, none, none, none] [.inl 2] x0.2.2) else (zrun C zT_247 91 [some (.inr (.inr (0, 60))), some (.inl a1), some (.inr (.inl x0.2.1)), none, none, none, none] [.inl (-1)] x0.2.2))) :=
  (zrun_eq C zT_247 [25, 26, 49, 91, 104, 137, 168, 169] 142 _ _ _ _).trans (by rfl)
theorem ez_247_91 (C : zC) (a1 : Int32) (d2 : Option zV) (d3 : Option zV) (d4 : Option zV) (d5 : Option zV) (d6 : Option zV) (s0 : Int32) (σ : zM) : zrun C zT_247 91 [some (.inr (.inr (0, 60))), some (.inl a1), d2, d3, d4, d5, d6] [.inl s0] σ = if s0 < 0 then (zrun C zT_247 104 [some (.inr (.inr (0, 60))), some (.inl a1), none, none, some (.inl s0), none, none] [.inl 0, .inr (.inr (0, 60))] σ) else (zrun C zT_247 104 [some (.inr (.inr (0, 60))), some (.inl a1), none, none, some (.inl s0), none, none] [.inl 1, .inr (.inr (0, 60))] σ) :=
  (zrun_eq C zT_247 [25, 26, 49, 91, 104, 137, 168, 169] 142 _ _ _ _).trans (by rfl)
theorem ez_247_104 (C : zC) (a1 : Int32) (d2 : Option zV) (d3 : Option zV) (a4 : Int32) (d5 : Option zV) (d6 : Option zV) (s0 : Int32) (σ : zM) : zrun C zT_247 104 [some (.inr (.inr (0, 60))), some (.inl a1), d2, d3, some (.inl a4), d5, d6] [.inl s0, .inr (.inr (0, 60))] σ = (C 236 [.inr (.inr (0, 60)), .inl s0] σ).bind fun x0 => if a4 < 0 then (zrun C zT_247 137 [some (.inr (.inr (0, 60))), some (.inl a1), none, none, some (.inl a4), none, none] [] (zwI x0.2.2 0 60 21 0)) else (if a4 = 2 then (zrun C zT_247 137 [some (.inr (.inr (0, 60))), some (.inl a1), none, none, some (.inl a4), none, none] [] (zwI x0.2.2 0 60 21 0)) else (if ((zwI x0.2.2 0 60 21 0).1 0 60 24) = 0 then ((C 238 [.inr (.inr (0, 60)), .inl 999] (zwI x0.2.2 0 60 21 0)).bind fun x1 => zrun C zT_247 137 [some (.inr (.inr (0, 60))), some (.inl a1), none, none, some (.inl a4), none, none] [] x1.2.2) else (zrun C zT_247 137 [some (.inr (.inr (0, 60))), some (.inl a1), none, none, some (.inl a4), none, none] [] (zwI x0.2.2 0 60 21 0)))) :=
  (zrun_eq C zT_247 [25, 26, 49, 91, 104, 137, 168, 169] 142 _ _ _ _).trans (by rfl)
theorem ez_247_137 (C : zC) (a1 : Int32) (d2 : Option zV) (d3 : Option zV) (a4 : Int32) (d5 : Option zV) (d6 : Option zV) (σ : zM) : zrun C zT_247 137 [some (.inr (.inr (0, 60))), some (.inl a1), d2, d3, some (.inl a4), d5, d6] [] σ = if (σ.1 0 60 24) = 0 then ((C 232 [.inr (.inr (0, 60)), .inl (σ.1 0 60 19)] σ).bind fun x0 => if x0.1 = 59 then (zrun C zT_247 169 [some (.inr (.inr (0, 60))), some (.inl a1), none, none, some (.inl a4), some (.inl (σ.1 0 60 21)), none] [.inl 1, .inr (.inr (0, 60))] x0.2.2) else (zrun C zT_247 168 [some (.inr (.inr (0, 60))), some (.inl a1), none, none, some (.inl a4), some (.inl (σ.1 0 60 21)), none] [.inr (.inr (0, 60))] x0.2.2)) else (zrun C zT_247 168 [some (.inr (.inr (0, 60))), some (.inl a1), none, none, some (.inl a4), some (.inl (σ.1 0 60 21)), none] [.inr (.inr (0, 60))] σ) :=
  (zrun_eq C zT_247 [25, 26, 49, 91, 104, 137, 168, 169] 142 _ _ _ _).trans (by rfl)
theorem ez_247_169 (C : zC) (a1 : Int32) (d2 : Option zV) (d3 : Option zV) (a4 : Int32) (a5 : Int32) (d6 : Option zV) (s0 : Int32) (σ : zM) : zrun C zT_247 169 [some (.inr (.inr (0, 60))), some (.inl a1), d2, d3, some (.inl a4), some (.inl a5), d6] [.inl s0, .inr (.inr (0, 60))] σ = (C 236 [.inr (.inr (0, 60)), .inl s0] σ).bind fun x0 => if (x0.2.2.1 0 60 24) = 0 then (zgd (zin ((88 + (4 * (x0.2.2.1 0 61 1))) + 0) 320) (zgd (zin ((88 + (4 * (x0.2.2.1 0 61 1))) + 1) 320) (zgd (zin ((88 + (4 * (x0.2.2.1 0 61 1))) + 2) 320) (zgd (zin ((88 + (4 * (x0.2.2.1 0 61 1))) + 3) 320) (some (0, 0, zwI (zwI (zwI (zwI (zwI x0.2.2 0 61 (Int32.toNatClampNeg ((88 + (4 * (x0.2.2.1 0 61 1))) + 0)) a1) 0 61 (Int32.toNatClampNeg ((88 + (4 * (x0.2.2.1 0 61 1))) + 1)) a4) 0 61 (Int32.toNatClampNeg ((88 + (4 * (x0.2.2.1 0 61 1))) + 2)) a5) 0 61 (Int32.toNatClampNeg ((88 + (4 * (x0.2.2.1 0 61 1))) + 3)) ((zwI (zwI (zwI x0.2.2 0 61 (Int32.toNatClampNeg ((88 + (4 * (x0.2.2.1 0 61 1))) + 0)) a1) 0 61 (Int32.toNatClampNeg ((88 + (4 * (x0.2.2.1 0 61 1))) + 1)) a4) 0 61 (Int32.toNatClampNeg ((88 + (4 * (x0.2.2.1 0 61 1))) + 2)) a5).1 0 60 23)) 0 61 1 (((zwI (zwI (zwI (zwI x0.2.2 0 61 (Int32.toNatClampNeg ((88 + (4 * (x0.2.2.1 0 61 1))) + 0)) a1) 0 61 (Int32.toNatClampNeg ((88 + (4 * (x0.2.2.1 0 61 1))) + 1)) a4) 0 61 (Int32.toNatClampNeg ((88 + (4 * (x0.2.2.1 0 61 1))) + 2)) a5) 0 61 (Int32.toNatClampNeg ((88 + (4 * (x0.2.2.1 0 61 1))) + 3)) ((zwI (zwI (zwI x0.2.2 0 61 (Int32.toNatClampNeg ((88 + (4 * (x0.2.2.1 0 61 1))) + 0)) a1) 0 61 (Int32.toNatClampNeg ((88 + (4 * (x0.2.2.1 0 61 1))) + 1)) a4) 0 61 (Int32.toNatClampNeg ((88 + (4 * (x0.2.2.1 0 61 1))) + 2)) a5).1 0 60 23)).1 0 61 1) + 1))))))) else (some (0, 0, x0.2.2)) :=
  (zrun_eq C zT_247 [25, 26, 49, 91, 104, 137, 168, 169] 142 _ _ _ _).trans (by rfl)
theorem ez_247_168 (C : zC) (a1 : Int32) (d2 : Option zV) (d3 : Option zV) (a4 : Int32) (a5 : Int32) (d6 : Option zV) (σ : zM) : zrun C zT_247 168 [some (.inr (.inr (0, 60))), some (.inl a1), d2, d3, some (.inl a4), some (.inl a5), d6] [.inr (.inr (0, 60))] σ = zrun C zT_247 169 [some (.inr (.inr (0, 60))), some (.inl a1), none, none, some (.inl a4), some (.inl a5), none] [.inl 0, .inr (.inr (0, 60))] σ :=
  (zrun_eq C zT_247 [25, 26, 49, 91, 104, 137, 168, 169] 142 _ _ _ _).trans (by rfl)

/-- X12_rules ()I -/
theorem ez_248 (d : Nat)  (σ : zM) : zev (d + 1) 248 [.inr (.inr (0, 60))] σ = (fun C : zC => ((C 153 [.inr (.inr (0, 60))] σ).bind fun x0 => zgd (z01 0) ((C 235 [.inr (.inr (0, 60))] (zwI (zwI (zwI (zwI (zwI x0.2.2 0 61 1 0) 0 60 23 0) 0 60 22 0) 0 60 20 0) 0 60 24 0)).bind fun x1 => zrun C zT_248 35 [some (.inr (.inr (0, 60)))] [] x1.2.2) : zR)) (zev d) :=
  (zev_m (T := zT_248) rfl rfl).trans ((zrun_eq (zev d) zT_248 [35, 60] 55 _ _ _ _).trans (by rfl))
theorem ez_248_35 (C : zC)  (σ : zM) : zrun C zT_248 35 [some (.inr (.inr (0, 60)))] [] σ = if (σ.1 0 60 24) = 0 then (if (σ.1 0 60 19) < (σ.1 0 60 18) then ((C 247 [.inr (.inr (0, 60))] σ).bind fun x0 => zrun C zT_248 35 [some (.inr (.inr (0, 60)))] [] x0.2.2) else (zrun C zT_248 60 [some (.inr (.inr (0, 60)))] [] σ)) else (zrun C zT_248 60 [some (.inr (.inr (0, 60)))] [] σ) :=
  (zrun_eq C zT_248 [35, 60] 55 _ _ _ _).trans (by rfl)
theorem ez_248_60 (C : zC)  (σ : zM) : zrun C zT_248 60 [some (.inr (.inr (0, 60)))] [] σ = if ((zwI σ 0 60 18 0).1 0 60 24) = 0 then (some (((zwI σ 0 60 18 0).1 0 61 1), 0, zwI σ 0 60 18 0)) else ((C 154 [.inr (.inr (0, 60))] (zwI σ 0 60 18 0)).bind fun x0 => some (((-100) - (x0.2.2.1 0 60 19)), 0, x0.2.2)) :=
  (zrun_eq C zT_248 [35, 60] 55 _ _ _ _).trans (by rfl)

/-- X12_isOne (I)Z -/
theorem ez_249 (d : Nat) (p0 : Int32) (σ : zM) : zev (d + 1) 249 [.inl p0] σ = (fun C : zC => ((C 149 [.inr (.inl (Int32.toInt64 p0)), .inr (.inl 0), .inr (.inl 3)] σ).bind fun x0 => zgd (zret 3 x0.1) (some (x0.1, 0, x0.2.2)) : zR)) (zev d) :=
  (zev_m (T := zT_249) rfl rfl).trans ((zrun_eq (zev d) zT_249 [] 11 _ _ _ _).trans (by rfl))

/-- X12_sheet (III)I -/
theorem ez_250 (d : Nat) (p0 : Int32) (p1 : Int32) (p2 : Int32) (σ : zM) : zev (d + 1) 250 [.inr (.inr (0, 60)), .inl p0, .inl p1, .inl p2] σ = (fun C : zC => ((C 249 [.inl p0] σ).bind fun x0 => if x0.1 = 0 then (some ((-1), 0, x0.2.2)) else ((C 149 [.inr (.inl (Int32.toInt64 p1)), .inr (.inl (-1)), .inr (.inl 4)] x0.2.2).bind fun x1 => if x1.1 = 0 then (some ((-1), 0, x1.2.2)) else (if p1 < 0 then (zrun C zT_250 33 [some (.inr (.inr (0, 60))), some (.inl p0), some (.inl p1), some (.inl p2), none] [] x1.2.2) else (if 40 < p2 then (some ((-1), 0, x1.2.2)) else (zrun C zT_250 33 [some (.inr (.inr (0, 60))), some (.inl p0), some (.inl p1), some (.inl p2), none] [] x1.2.2)))) : zR)) (zev d) :=
  (zev_m (T := zT_250) rfl rfl).trans ((zrun_eq (zev d) zT_250 [33, 44, 69] 59 _ _ _ _).trans (by rfl))
theorem ez_250_33 (C : zC) (a1 : Int32) (a2 : Int32) (a3 : Int32) (d4 : Option zV) (σ : zM) : zrun C zT_250 33 [some (.inr (.inr (0, 60))), some (.inl a1), some (.inl a2), some (.inl a3), d4] [] σ = if a2 < 0 then (zrun C zT_250 44 [some (.inr (.inr (0, 60))), some (.inl a1), some (.inl a2), some (.inl a3), none] [] σ) else (if a3 < 0 then (some ((-14), 0, σ)) else (zrun C zT_250 44 [some (.inr (.inr (0, 60))), some (.inl a1), some (.inl a2), some (.inl a3), none] [] σ)) :=
  (zrun_eq C zT_250 [33, 44, 69] 59 _ _ _ _).trans (by rfl)
theorem ez_250_44 (C : zC) (a1 : Int32) (a2 : Int32) (a3 : Int32) (d4 : Option zV) (σ : zM) : zrun C zT_250 44 [some (.inr (.inr (0, 60))), some (.inl a1), some (.inl a2), some (.inl a3), d4] [] σ = zgd (zin a1 4) (if a2 < 0 then (zgd (zin a1 4) (zrun C zT_250 69 [some (.inr (.inr (0, 60))), some (.inl a1), some (.inl a2), some (.inl a3), some (.inl 0)] [] (zwI (zwI σ 0 73 (Int32.toNatClampNeg a1) a2) 0 74 (Int32.toNatClampNeg a1) 0))) else (zgd (zin a1 4) (zrun C zT_250 69 [some (.inr (.inr (0, 60))), some (.inl a1), some (.inl a2), some (.inl a3), some (.inl 0)] [] (zwI (zwI σ 0 73 (Int32.toNatClampNeg a1) a2) 0 74 (Int32.toNatClampNeg a1) a3)))) :=
  (zrun_eq C zT_250 [33, 44, 69] 59 _ _ _ _).trans (by rfl)
theorem ez_250_69 (C : zC) (a1 : Int32) (d2 : Option zV) (d3 : Option zV) (a4 : Int32) (σ : zM) : zrun C zT_250 69 [some (.inr (.inr (0, 60))), some (.inl a1), d2, d3, some (.inl a4)] [] σ = if a4 < 40 then (zgd (zin ((40 * a1) + a4) 160) (zrun C zT_250 69 [some (.inr (.inr (0, 60))), some (.inl a1), none, none, some (.inl (a4 + 1))] [] (zwI σ 0 75 (Int32.toNatClampNeg ((40 * a1) + a4)) 0))) else (some (1, 0, σ)) :=
  (zrun_eq C zT_250 [33, 44, 69] 59 _ _ _ _).trans (by rfl)

/-- X12_narrowed (II)I -/
theorem ez_251 (d : Nat) (p0 : Int32) (p1 : Int32) (σ : zM) : zev (d + 1) 251 [.inl p0, .inl p1] σ = (fun C : zC => (if p0 = 0 then (some ((Int32.toInt8 p1).toInt32, 0, σ)) else (if p0 = 1 then (some ((Int32.toInt16 p1).toInt32, 0, σ)) else (if p0 = 4 then (if p1 = 0 then (some (0, 0, σ)) else (some (1, 0, σ))) else (some (p1, 0, σ)))) : zR)) (zev d) :=
  (zev_m (T := zT_251) rfl rfl).trans ((zrun_eq (zev d) zT_251 [] 27 _ _ _ _).trans (by rfl))

/-- X12_write (III)I -/
theorem ez_252 (d : Nat) (p0 : Int32) (p1 : Int32) (p2 : Int32) (σ : zM) : zev (d + 1) 252 [.inr (.inr (0, 60)), .inl p0, .inl p1, .inl p2] σ = (fun C : zC => ((C 249 [.inl p0] σ).bind fun x0 => if x0.1 = 0 then (some ((-1), 0, x0.2.2)) else (zgd (zin p0 4) (if (x0.2.2.1 0 73 (Int32.toNatClampNeg p0)) < 0 then (some ((-11), 0, x0.2.2)) else (zgd (zin p0 4) ((C 149 [.inr (.inl (Int32.toInt64 p1)), .inr (.inl 0), .inr (.inl (Int32.toInt64 ((x0.2.2.1 0 74 (Int32.toNatClampNeg p0)) - 1)))] x0.2.2).bind fun x1 => if x1.1 = 0 then (some ((-12), 0, x1.2.2)) else (zgd (zin p0 4) ((C 251 [.inl (x1.2.2.1 0 73 (Int32.toNatClampNeg p0)), .inl p2] x1.2.2).bind fun x2 => zgd (zin ((40 * p0) + p1) 160) (some (1, 0, zwI x2.2.2 0 75 (Int32.toNatClampNeg ((40 * p0) + p1)) x2.1)))))))) : zR)) (zev d) :=
  (zev_m (T := zT_252) rfl rfl).trans ((zrun_eq (zev d) zT_252 [] 47 _ _ _ _).trans (by rfl))

/-- X12_wrong (II)I -/
theorem ez_253 (d : Nat) (p0 : Int32) (p1 : Int32) (σ : zM) : zev (d + 1) 253 [.inr (.inr (0, 60)), .inl p0, .inl p1] σ = (fun C : zC => (zgd (zin p0 4) (if (σ.1 0 73 (Int32.toNatClampNeg p0)) < 0 then (some ((-11), 0, σ)) else (zgd (zin p0 4) (if (σ.1 0 73 (Int32.toNatClampNeg p0)) = p1 then (some (0, 0, σ)) else (some ((-13), 0, σ))))) : zR)) (zev d) :=
  (zev_m (T := zT_253) rfl rfl).trans ((zrun_eq (zev d) zT_253 [] 22 _ _ _ _).trans (by rfl))

/-- X12_item (III)I -/
theorem ez_254 (d : Nat) (p0 : Int32) (p1 : Int32) (p2 : Int32) (σ : zM) : zev (d + 1) 254 [.inr (.inr (0, 60)), .inl p0, .inl p1, .inl p2] σ = (fun C : zC => ((C 249 [.inl p0] σ).bind fun x0 => if x0.1 = 0 then (some ((-1), 0, x0.2.2)) else ((C 149 [.inr (.inl (Int32.toInt64 p1)), .inr (.inl 0), .inr (.inl 4)] x0.2.2).bind fun x1 => if x1.1 = 0 then (some ((-1), 0, x1.2.2)) else ((C 253 [.inr (.inr (0, 60)), .inl p0, .inl p1] x1.2.2).bind fun x2 => if x2.1 = 0 then (zgd (zin p0 4) ((C 149 [.inr (.inl (Int32.toInt64 p2)), .inr (.inl 0), .inr (.inl (Int32.toInt64 ((x2.2.2.1 0 74 (Int32.toNatClampNeg p0)) - 1)))] x2.2.2).bind fun x3 => if x3.1 = 0 then (some ((-12), 0, x3.2.2)) else (zgd (zin ((40 * p0) + p2) 160) (some ((x3.2.2.1 0 75 (Int32.toNatClampNeg ((40 * p0) + p2))), 0, x3.2.2))))) else (some (x2.1, 0, x2.2.2)))) : zR)) (zev d) :=
  (zev_m (T := zT_254) rfl rfl).trans ((zrun_eq (zev d) zT_254 [] 48 _ _ _ _).trans (by rfl))

/-- X12_climbs (IIII)I -/
theorem ez_255 (d : Nat) (p0 : Int32) (p1 : Int32) (p2 : Int32) (p3 : Int32) (σ : zM) : zev (d + 1) 255 [.inr (.inr (0, 60)), .inl p0, .inl p1, .inl p2, .inl p3] σ = (fun C : zC => ((C 151 [.inr (.inr (0, 60)), .inl p0] σ).bind fun x0 => if x0.1 = 0 then (some ((-1), 0, x0.2.2)) else ((C 249 [.inl p1] x0.2.2).bind fun x1 => if x1.1 = 0 then (some ((-1), 0, x1.2.2)) else ((C 149 [.inr (.inl (Int32.toInt64 p3)), .inr (.inl 0), .inr (.inl 20)] x1.2.2).bind fun x2 => if x2.1 = 0 then (some ((-1), 0, x2.2.2)) else ((C 253 [.inr (.inr (0, 60)), .inl p1, .inl 0] x2.2.2).bind fun x3 => if x3.1 = 0 then (zrun C zT_255 52 [some (.inr (.inr (0, 60))), some (.inl p0), some (.inl p1), some (.inl p2), some (.inl p3), some (.inl x3.1), some (.inl 0), some (.inl 0), none] [] x3.2.2) else (some (x3.1, 0, x3.2.2))))) : zR)) (zev d) :=
  (zev_m (T := zT_255) rfl rfl).trans ((zrun_eq (zev d) zT_255 [52] 83 _ _ _ _).trans (by rfl))
theorem ez_255_52 (C : zC) (a1 : Int32) (a2 : Int32) (a3 : Int32) (a4 : Int32) (d5 : Option zV) (a6 : Int32) (a7 : Int32) (d8 : Option zV) (σ : zM) : zrun C zT_255 52 [some (.inr (.inr (0, 60))), some (.inl a1), some (.inl a2), some (.inl a3), some (.inl a4), d5, some (.inl a6), some (.inl a7), d8] [] σ = if a7 < a4 then (zgd (zin a2 4) ((C 149 [.inr (.inl ((Int32.toInt64 a3) + (Int32.toInt64 a7))), .inr (.inl 0), .inr (.inl (Int32.toInt64 ((σ.1 0 74 (Int32.toNatClampNeg a2)) - 1)))] σ).bind fun x0 => if x0.1 = 0 then (some ((-12), 0, x0.2.2)) else (zgd (zin (((40 * a2) + a3) + a7) 160) ((C 184 [.inr (.inr (0, 60)), .inl a1, .inl (x0.2.2.1 0 75 (Int32.toNatClampNeg (((40 * a2) + a3) + a7)))] x0.2.2).bind fun x1 => if x1.1 = (-1) then (zrun C zT_255 52 [some (.inr (.inr (0, 60))), some (.inl a1), some (.inl a2), some (.inl a3), some (.inl a4), none, some (.inl (a6 + 0)), some (.inl (a7 + 1)), some (.inl x1.1)] [] x1.2.2) else (if x1.1 = (-4) then (zrun C zT_255 52 [some (.inr (.inr (0, 60))), some (.inl a1), some (.inl a2), some (.inl a3), some (.inl a4), none, some (.inl (a6 + 0)), some (.inl (a7 + 1)), some (.inl x1.1)] [] x1.2.2) else (zrun C zT_255 52 [some (.inr (.inr (0, 60))), some (.inl a1), some (.inl a2), some (.inl a3), some (.inl a4), none, some (.inl (a6 + 1)), some (.inl (a7 + 1)), some (.inl x1.1)] [] x1.2.2)))))) else (some (a6, 0, σ)) :=
  (zrun_eq C zT_255 [52] 83 _ _ _ _).trans (by rfl)

/-- X12_shelf (III)I -/
theorem ez_256 (d : Nat) (p0 : Int32) (p1 : Int32) (p2 : Int32) (σ : zM) : zev (d + 1) 256 [.inr (.inr (0, 60)), .inl p0, .inl p1, .inl p2] σ = (fun C : zC => ((C 249 [.inl p0] σ).bind fun x0 => if x0.1 = 0 then (some ((-1), 0, x0.2.2)) else ((C 149 [.inr (.inl (Int32.toInt64 p1)), .inr (.inl 0), .inr (.inl 2)] x0.2.2).bind fun x1 => if x1.1 = 0 then (some ((-1), 0, x1.2.2)) else (if p1 = 0 then ((C 150 [.inr (.inr (0, 60)), .inl p2] x1.2.2).bind fun x2 => if x2.1 = 0 then (some ((-1), 0, x2.2.2)) else (zrun C zT_256 31 [some (.inr (.inr (0, 60))), some (.inl p0), some (.inl p1), some (.inl p2)] [] x2.2.2)) else (zrun C zT_256 31 [some (.inr (.inr (0, 60))), some (.inl p0), some (.inl p1), some (.inl p2)] [] x1.2.2))) : zR)) (zev d) :=
  (zev_m (T := zT_256) rfl rfl).trans ((zrun_eq (zev d) zT_256 [31, 45, 76, 77, 106] 79 _ _ _ _).trans (by rfl))
theorem ez_256_31 (C : zC) (a1 : Int32) (a2 : Int32) (a3 : Int32) (σ : zM) : zrun C zT_256 31 [some (.inr (.inr (0, 60))), some (.inl a1), some (.inl a2), some (.inl a3)] [] σ = if a2 = 1 then ((C 249 [.inl a3] σ).bind fun x0 => if x0.1 = 0 then (some ((-1), 0, x0.2.2)) else (zrun C zT_256 45 [some (.inr (.inr (0, 60))), some (.inl a1), some (.inl a2), some (.inl a3)] [] x0.2.2)) else (zrun C zT_256 45 [some (.inr (.inr (0, 60))), some (.inl a1), some (.inl a2), some (.inl a3)] [] σ) :=
  (zrun_eq C zT_256 [31, 45, 76, 77, 106] 79 _ _ _ _).trans (by rfl)
theorem ez_256_45 (C : zC) (a1 : Int32) (a2 : Int32) (a3 : Int32) (σ : zM) : zrun C zT_256 45 [some (.inr (.inr (0, 60))), some (.inl a1), some (.inl a2), some (.inl a3)] [] σ = if a2 = 0 then (zrun C zT_256 77 [some (.inr (.inr (0, 60))), some (.inl a1), some (.inl a2), some (.inl a3)] [.inl 1, .inl a1, .inr (.inr (0, 76))] σ) else (if a2 = 1 then (zgd (zin a3 4) (if (σ.1 0 73 (Int32.toNatClampNeg a3)) < 0 then (zrun C zT_256 76 [some (.inr (.inr (0, 60))), some (.inl a1), some (.inl a2), some (.inl a3)] [.inl a1, .inr (.inr (0, 76))] σ) else (zrun C zT_256 77 [some (.inr (.inr (0, 60))), some (.inl a1), some (.inl a2), some (.inl a3)] [.inl 2, .inl a1, .inr (.inr (0, 76))] σ))) else (zrun C zT_256 76 [some (.inr (.inr (0, 60))), some (.inl a1), some (.inl a2), some (.inl a3)] [.inl a1, .inr (.inr (0, 76))] σ)) :=
  (zrun_eq C zT_256 [31, 45, 76, 77, 106] 79 _ _ _ _).trans (by rfl)
theorem ez_256_77 (C : zC) (a1 : Int32) (a2 : Int32) (a3 : Int32) (s0 : Int32) (s1 : Int32) (σ : zM) : zrun C zT_256 77 [some (.inr (.inr (0, 60))), some (.inl a1), some (.inl a2), some (.inl a3)] [.inl s0, .inl s1, .inr (.inr (0, 76))] σ = zgd (zin s1 4) (if a2 = 0 then (zrun C zT_256 106 [some (.inr (.inr (0, 60))), some (.inl a1), some (.inl a2), some (.inl a3)] [.inl a3, .inl a1, .inr (.inr (0, 77))] (zwI σ 0 76 (Int32.toNatClampNeg s1) s0)) else (if a2 = 1 then (zgd (zin a3 4) (zrun C zT_256 106 [some (.inr (.inr (0, 60))), some (.inl a1), some (.inl a2), some (.inl a3)] [.inl ((zwI σ 0 76 (Int32.toNatClampNeg s1) s0).1 0 74 (Int32.toNatClampNeg a3)), .inl a1, .inr (.inr (0, 77))] (zwI σ 0 76 (Int32.toNatClampNeg s1) s0))) else (zrun C zT_256 106 [some (.inr (.inr (0, 60))), some (.inl a1), some (.inl a2), some (.inl a3)] [.inl 0, .inl a1, .inr (.inr (0, 77))] (zwI σ 0 76 (Int32.toNatClampNeg s1) s0)))) :=
  (zrun_eq C zT_256 [31, 45, 76, 77, 106] 79 _ _ _ _).trans (by rfl)
theorem ez_256_76 (C : zC) (a1 : Int32) (a2 : Int32) (a3 : Int32) (s0 : Int32) (σ : zM) : zrun C zT_256 76 [some (.inr (.inr (0, 60))), some (.inl a1), some (.inl a2), some (.inl a3)] [.inl s0, .inr (.inr (0, 76))] σ = zrun C zT_256 77 [some (.inr (.inr (0, 60))), some (.inl a1), some (.inl a2), some (.inl a3)] [.inl 0, .inl s0, .inr (.inr (0, 76))] σ :=
  (zrun_eq C zT_256 [31, 45, 76, 77, 106] 79 _ _ _ _).trans (by rfl)
theorem ez_256_106 (C : zC) (a1 : Int32) (a2 : Int32) (a3 : Int32) (s0 : Int32) (s1 : Int32) (σ : zM) : zrun C zT_256 106 [some (.inr (.inr (0, 60))), some (.inl a1), some (.inl a2), some (.inl a3)] [.inl s0, .inl s1, .inr (.inr (0, 77))] σ = zgd (zin s1 4) (if a2 = 1 then (zgd (zin a3 4) (zgd (zin a1 4) (some (1, 0, zwI (zwI σ 0 77 (Int32.toNatClampNeg s1) s0) 0 78 (Int32.toNatClampNeg a1) ((zwI σ 0 77 (Int32.toNatClampNeg s1) s0).1 0 73 (Int32.toNatClampNeg a3)))))) else (zgd (zin a1 4) (some (1, 0, zwI (zwI σ 0 77 (Int32.toNatClampNeg s1) s0) 0 78 (Int32.toNatClampNeg a1) 0)))) :=
  (zrun_eq C zT_256 [31, 45, 76, 77, 106] 79 _ _ _ _).trans (by rfl)

/-- X12_onShelf (I)I -/
theorem ez_257 (d : Nat) (p0 : Int32) (σ : zM) : zev (d + 1) 257 [.inr (.inr (0, 60)), .inl p0] σ = (fun C : zC => ((C 249 [.inl p0] σ).bind fun x0 => if x0.1 = 0 then (some ((-1), 0, x0.2.2)) else (zgd (zin p0 4) (if (x0.2.2.1 0 76 (Int32.toNatClampNeg p0)) = 1 then (zgd (zin p0 4) ((C 150 [.inr (.inr (0, 60)), .inl (x0.2.2.1 0 77 (Int32.toNatClampNeg p0))] x0.2.2).bind fun x1 => if x1.1 = 0 then (some ((-1), 0, x1.2.2)) else (zgd (zin p0 4) (some ((x1.2.2.1 0 77 (Int32.toNatClampNeg p0)), 0, x1.2.2))))) else (some ((-1), 0, x0.2.2)))) : zR)) (zev d) :=
  (zev_m (T := zT_257) rfl rfl).trans ((zrun_eq (zev d) zT_257 [] 28 _ _ _ _).trans (by rfl))

/-- X12_taken (II)I -/
theorem ez_258 (d : Nat) (p0 : Int32) (p1 : Int32) (σ : zM) : zev (d + 1) 258 [.inr (.inr (0, 60)), .inl p0, .inl p1] σ = (fun C : zC => ((C 249 [.inl p0] σ).bind fun x0 => if x0.1 = 0 then (some ((-1), 0, x0.2.2)) else ((C 149 [.inr (.inl (Int32.toInt64 p1)), .inr (.inl 0), .inr (.inl 5)] x0.2.2).bind fun x1 => if x1.1 = 0 then ((C 149 [.inr (.inl (Int32.toInt64 p1)), .inr (.inl 10), .inr (.inl 14)] x1.2.2).bind fun x2 => if x2.1 = 0 then (some ((-1), 0, x2.2.2)) else (zrun C zT_258 35 [some (.inr (.inr (0, 60))), some (.inl p0), some (.inl p1), none, none] [] x2.2.2)) else (zrun C zT_258 35 [some (.inr (.inr (0, 60))), some (.inl p0), some (.inl p1), none, none] [] x1.2.2)) : zR)) (zev d) :=
  (zev_m (T := zT_258) rfl rfl).trans ((zrun_eq (zev d) zT_258 [35, 58] 73 _ _ _ _).trans (by rfl))
theorem ez_258_35 (C : zC) (a1 : Int32) (a2 : Int32) (d3 : Option zV) (d4 : Option zV) (σ : zM) : zrun C zT_258 35 [some (.inr (.inr (0, 60))), some (.inl a1), some (.inl a2), d3, d4] [] σ = (C 257 [.inr (.inr (0, 60)), .inl a1] σ).bind fun x0 => if x0.1 < 0 then (zgd (zin a1 4) (if (x0.2.2.1 0 76 (Int32.toNatClampNeg a1)) < 2 then (some ((-11), 0, x0.2.2)) else (zrun C zT_258 58 [some (.inr (.inr (0, 60))), some (.inl a1), some (.inl a2), some (.inl x0.1), none] [] x0.2.2))) else (zrun C zT_258 58 [some (.inr (.inr (0, 60))), some (.inl a1), some (.inl a2), some (.inl x0.1), none] [] x0.2.2) :=
  (zrun_eq C zT_258 [35, 58] 73 _ _ _ _).trans (by rfl)
theorem ez_258_58 (C : zC) (a1 : Int32) (a2 : Int32) (a3 : Int32) (d4 : Option zV) (σ : zM) : zrun C zT_258 58 [some (.inr (.inr (0, 60))), some (.inl a1), some (.inl a2), some (.inl a3), d4] [] σ = if a3 < 0 then (zgd (zin a1 4) (if (a2 - 10) = (σ.1 0 78 (Int32.toNatClampNeg a1)) then (if 1 = 0 then (some ((-13), 0, σ)) else (zgd (zin a1 4) (some ((σ.1 0 77 (Int32.toNatClampNeg a1)), 0, σ)))) else (if 0 = 0 then (some ((-13), 0, σ)) else (zgd (zin a1 4) (some ((σ.1 0 77 (Int32.toNatClampNeg a1)), 0, σ)))))) else (if a2 < 6 then ((C 156 [.inr (.inr (0, 60)), .inl a3, .inl 0] σ).bind fun x0 => (C 161 [.inl x0.1, .inl a2] x0.2.2).bind fun x1 => if x1.1 = 0 then (if 0 = 0 then (some ((-13), 0, x1.2.2)) else (zgd (zin a1 4) (some ((x1.2.2.1 0 77 (Int32.toNatClampNeg a1)), 0, x1.2.2)))) else (if 1 = 0 then (some ((-13), 0, x1.2.2)) else (zgd (zin a1 4) (some ((x1.2.2.1 0 77 (Int32.toNatClampNeg a1)), 0, x1.2.2))))) else (if 0 = 0 then (some ((-13), 0, σ)) else (zgd (zin a1 4) (some ((σ.1 0 77 (Int32.toNatClampNeg a1)), 0, σ))))) :=
  (zrun_eq C zT_258 [35, 58] 73 _ _ _ _).trans (by rfl)

/-- X12_runs (I)V -/
theorem ez_259 (d : Nat) (p0 : Int32) (σ : zM) : zev (d + 1) 259 [.inr (.inr (0, 60)), .inl p0] σ = (fun C : zC => (if (σ.1 0 60 36) = 0 then (if (σ.1 0 60 32) < 30 then (zgd (zin (σ.1 0 60 32) 30) (some (0, 0, zwI (zwI σ 0 79 (Int32.toNatClampNeg (σ.1 0 60 32)) p0) 0 60 32 (((zwI σ 0 79 (Int32.toNatClampNeg (σ.1 0 60 32)) p0).1 0 60 32) + 1)))) else (some (0, 0, zwI σ 0 60 32 ((σ.1 0 60 32) + 1)))) else (some (0, 0, σ)) : zR)) (zev d) :=
  (zev_m (T := zT_259) rfl rfl).trans ((zrun_eq (zev d) zT_259 [] 25 _ _ _ _).trans (by rfl))

/-- X12_sways (I)I -/
theorem ez_260 (d : Nat) (p0 : Int32) (σ : zM) : zev (d + 1) 260 [.inr (.inr (0, 60)), .inl p0] σ = (fun C : zC => (if (σ.1 0 60 35) = 1 then ((C 259 [.inr (.inr (0, 60)), .inl 20] σ).bind fun x0 => (C 259 [.inr (.inr (0, 60)), .inl 10] x0.2.2).bind fun x1 => some (((p0 + (x1.2.2.1 0 60 33)) * 3), 0, x1.2.2)) else (if (σ.1 0 60 35) = 3 then ((C 259 [.inr (.inr (0, 60)), .inl 50] σ).bind fun x2 => (C 259 [.inr (.inr (0, 60)), .inl 10] x2.2.2).bind fun x3 => some (((p0 + (x3.2.2.1 0 60 33)) ^^^ (x3.2.2.1 0 60 33)), 0, x3.2.2)) else ((C 259 [.inr (.inr (0, 60)), .inl 10] σ).bind fun x4 => some ((p0 + (x4.2.2.1 0 60 33)), 0, x4.2.2))) : zR)) (zev d) :=
  (zev_m (T := zT_260) rfl rfl).trans ((zrun_eq (zev d) zT_260 [] 48 _ _ _ _).trans (by rfl))

/-- X12_bends (I)I -/
theorem ez_261 (d : Nat) (p0 : Int32) (σ : zM) : zev (d + 1) 261 [.inr (.inr (0, 60)), .inl p0] σ = (fun C : zC => (if (σ.1 0 60 35) = 2 then (zrun C zT_261 16 [some (.inr (.inr (0, 60))), some (.inl p0), none, none] [] σ) else (if (σ.1 0 60 35) = 3 then (zrun C zT_261 16 [some (.inr (.inr (0, 60))), some (.inl p0), none, none] [] σ) else (zrun C zT_261 21 [some (.inr (.inr (0, 60))), some (.inl p0), none, none] [.inl 0] σ)) : zR)) (zev d) :=
  (zev_m (T := zT_261) rfl rfl).trans ((zrun_eq (zev d) zT_261 [16, 21, 32, 46] 55 _ _ _ _).trans (by rfl))
theorem ez_261_16 (C : zC) (a1 : Int32) (d2 : Option zV) (d3 : Option zV) (σ : zM) : zrun C zT_261 16 [some (.inr (.inr (0, 60))), some (.inl a1), d2, d3] [] σ = zrun C zT_261 21 [some (.inr (.inr (0, 60))), some (.inl a1), none, none] [.inl 1] σ :=
  (zrun_eq C zT_261 [16, 21, 32, 46] 55 _ _ _ _).trans (by rfl)
theorem ez_261_21 (C : zC) (a1 : Int32) (d2 : Option zV) (d3 : Option zV) (s0 : Int32) (σ : zM) : zrun C zT_261 21 [some (.inr (.inr (0, 60))), some (.inl a1), d2, d3] [.inl s0] σ = if s0 = 0 then (zrun C zT_261 32 [some (.inr (.inr (0, 60))), some (.inl a1), some (.inl s0), none] [] σ) else ((C 259 [.inr (.inr (0, 60)), .inl 30] σ).bind fun x0 => zrun C zT_261 32 [some (.inr (.inr (0, 60))), some (.inl a1), some (.inl s0), none] [] x0.2.2) :=
  (zrun_eq C zT_261 [16, 21, 32, 46] 55 _ _ _ _).trans (by rfl)
theorem ez_261_32 (C : zC) (a1 : Int32) (a2 : Int32) (d3 : Option zV) (σ : zM) : zrun C zT_261 32 [some (.inr (.inr (0, 60))), some (.inl a1), some (.inl a2), d3] [] σ = if (σ.1 0 60 35) = 5 then ((C 259 [.inr (.inr (0, 60)), .inl 60] σ).bind fun x0 => zrun C zT_261 46 [some (.inr (.inr (0, 60))), some (.inl a1), some (.inl a2), none] [] x0.2.2) else (zrun C zT_261 46 [some (.inr (.inr (0, 60))), some (.inl a1), some (.inl a2), none] [] σ) :=
  (zrun_eq C zT_261 [16, 21, 32, 46] 55 _ _ _ _).trans (by rfl)
theorem ez_261_46 (C : zC) (a1 : Int32) (a2 : Int32) (d3 : Option zV) (σ : zM) : zrun C zT_261 46 [some (.inr (.inr (0, 60))), some (.inl a1), some (.inl a2), d3] [] σ = (C 259 [.inr (.inr (0, 60)), .inl 11] σ).bind fun x0 => (C 260 [.inr (.inr (0, 60)), .inl a1] x0.2.2).bind fun x1 => if a2 = 0 then (if (x1.2.2.1 0 60 35) = 5 then (some ((0 - (x1.1 * 2)), 0, x1.2.2)) else (some ((x1.1 * 2), 0, x1.2.2))) else (some (((x1.1 * 2) - (x1.2.2.1 0 60 34)), 0, x1.2.2)) :=
  (zrun_eq C zT_261 [16, 21, 32, 46] 55 _ _ _ _).trans (by rfl)

/-- X12_parts (I)I -/
theorem ez_262 (d : Nat) (p0 : Int32) (σ : zM) : zev (d + 1) 262 [.inr (.inr (0, 60)), .inl p0] σ = (fun C : zC => ((C 259 [.inr (.inr (0, 60)), .inl 12] σ).bind fun x0 => if (x0.2.2.1 0 60 34) = (x0.2.2.1 0 60 33) then (zgd (z01 1) (some (0, 0, zwI x0.2.2 0 60 36 1))) else (if ((x0.2.2.1 0 60 34) - (x0.2.2.1 0 60 33)) = 0 then none else some ((p0 / ((x0.2.2.1 0 60 34) - (x0.2.2.1 0 60 33))), 0, x0.2.2)) : zR)) (zev d) :=
  (zev_m (T := zT_262) rfl rfl).trans ((zrun_eq (zev d) zT_262 [] 26 _ _ _ _).trans (by rfl))

/-- X12_shares (I)I -/
theorem ez_263 (d : Nat) (p0 : Int32) (σ : zM) : zev (d + 1) 263 [.inr (.inr (0, 60)), .inl p0] σ = (fun C : zC => (if (σ.1 0 60 35) = 4 then ((C 259 [.inr (.inr (0, 60)), .inl 40] σ).bind fun x0 => (C 262 [.inr (.inr (0, 60)), .inl (p0 + 1)] x0.2.2).bind fun x1 => some (x1.1, 0, x1.2.2)) else (if (σ.1 0 60 35) = 5 then ((C 259 [.inr (.inr (0, 60)), .inl 61] σ).bind fun x2 => (C 259 [.inr (.inr (0, 60)), .inl 40] x2.2.2).bind fun x3 => (C 262 [.inr (.inr (0, 60)), .inl (p0 + 1)] x3.2.2).bind fun x4 => if (x4.2.2.1 0 60 36) = 0 then ((C 260 [.inr (.inr (0, 60)), .inl (x4.2.2.1 0 60 34)] x4.2.2).bind fun x5 => some ((x4.1 + x5.1), 0, x5.2.2)) else (some (0, 0, x4.2.2))) else ((C 262 [.inr (.inr (0, 60)), .inl p0] σ).bind fun x6 => some (x6.1, 0, x6.2.2))) : zR)) (zev d) :=
  (zev_m (T := zT_263) rfl rfl).trans ((zrun_eq (zev d) zT_263 [] 50 _ _ _ _).trans (by rfl))

/-- X12_tells (I)I -/
theorem ez_264 (d : Nat) (p0 : Int32) (σ : zM) : zev (d + 1) 264 [.inr (.inr (0, 60)), .inl p0] σ = (fun C : zC => (if (σ.1 0 60 35) = 3 then ((C 259 [.inr (.inr (0, 60)), .inl 51] σ).bind fun x0 => zrun C zT_264 14 [some (.inr (.inr (0, 60))), some (.inl p0), none] [] x0.2.2) else (zrun C zT_264 14 [some (.inr (.inr (0, 60))), some (.inl p0), none] [] σ) : zR)) (zev d) :=
  (zev_m (T := zT_264) rfl rfl).trans ((zrun_eq (zev d) zT_264 [14] 35 _ _ _ _).trans (by rfl))
theorem ez_264_14 (C : zC) (a1 : Int32) (d2 : Option zV) (σ : zM) : zrun C zT_264 14 [some (.inr (.inr (0, 60))), some (.inl a1), d2] [] σ = (C 259 [.inr (.inr (0, 60)), .inl 13] σ).bind fun x0 => (C 261 [.inr (.inr (0, 60)), .inl a1] x0.2.2).bind fun x1 => if (x1.2.2.1 0 60 35) = 3 then ((C 263 [.inr (.inr (0, 60)), .inl (x1.2.2.1 0 60 33)] x1.2.2).bind fun x2 => some (((x1.1 ^^^ (x1.2.2.1 0 60 34)) + x2.1), 0, x2.2.2)) else (some ((x1.1 ^^^ (x1.2.2.1 0 60 34)), 0, x1.2.2)) :=
  (zrun_eq C zT_264 [14] 35 _ _ _ _).trans (by rfl)

/-- X12_act (III)I -/
theorem ez_265 (d : Nat) (p0 : Int32) (p1 : Int32) (p2 : Int32) (σ : zM) : zev (d + 1) 265 [.inr (.inr (0, 60)), .inl p0, .inl p1, .inl p2] σ = (fun C : zC => (zgd (z01 0) ((C 257 [.inr (.inr (0, 60)), .inl p0] (zwI (zwI σ 0 60 32 0) 0 60 36 0)).bind fun x0 => if ((zwI x0.2.2 0 60 33 x0.1).1 0 60 33) < 0 then (some (0, 0, zwI x0.2.2 0 60 33 x0.1)) else ((C 149 [.inr (.inl (Int32.toInt64 p1)), .inr (.inl 0), .inr (.inl 3)] (zwI x0.2.2 0 60 33 x0.1)).bind fun x1 => if x1.1 = 0 then (some (0, 0, x1.2.2)) else ((C 156 [.inr (.inr (0, 60)), .inl (x1.2.2.1 0 60 33), .inl 2] x1.2.2).bind fun x2 => (C 156 [.inr (.inr (0, 60)), .inl ((zwI x2.2.2 0 60 34 x2.1).1 0 60 33), .inl 0] (zwI x2.2.2 0 60 34 x2.1)).bind fun x3 => if p1 = 0 then ((C 260 [.inr (.inr (0, 60)), .inl p2] (zwI x3.2.2 0 60 35 x3.1)).bind fun x4 => if (x4.2.2.1 0 60 36) = 0 then (some (x4.1, 0, x4.2.2)) else (some ((-15), 0, x4.2.2))) else (if p1 = 1 then ((C 261 [.inr (.inr (0, 60)), .inl p2] (zwI x3.2.2 0 60 35 x3.1)).bind fun x5 => if (x5.2.2.1 0 60 36) = 0 then (some (x5.1, 0, x5.2.2)) else (some ((-15), 0, x5.2.2))) else (if p1 = 2 then ((C 263 [.inr (.inr (0, 60)), .inl p2] (zwI x3.2.2 0 60 35 x3.1)).bind fun x6 => if (x6.2.2.1 0 60 36) = 0 then (some (x6.1, 0, x6.2.2)) else (some ((-15), 0, x6.2.2))) else ((C 264 [.inr (.inr (0, 60)), .inl p2] (zwI x3.2.2 0 60 35 x3.1)).bind fun x7 => if (x7.2.2.1 0 60 36) = 0 then (some (x7.1, 0, x7.2.2)) else (some ((-15), 0, x7.2.2)))))))) : zR)) (zev d) :=
  (zev_m (T := zT_265) rfl rfl).trans ((zrun_eq (zev d) zT_265 [] 72 _ _ _ _).trans (by rfl))

/-- X12_traced ()I -/
theorem ez_266 (d : Nat)  (σ : zM) : zev (d + 1) 266 [.inr (.inr (0, 60))] σ = (fun C : zC => (if (σ.1 0 60 32) < 30 then (some ((σ.1 0 60 32), 0, σ)) else (some (30, 0, σ)) : zR)) (zev d) :=
  (zev_m (T := zT_266) rfl rfl).trans ((zrun_eq (zev d) zT_266 [] 14 _ _ _ _).trans (by rfl))

/-- X12_trace (I)I -/
theorem ez_267 (d : Nat) (p0 : Int32) (σ : zM) : zev (d + 1) 267 [.inr (.inr (0, 60)), .inl p0] σ = (fun C : zC => ((C 266 [.inr (.inr (0, 60))] σ).bind fun x0 => (C 149 [.inr (.inl (Int32.toInt64 p0)), .inr (.inl 0), .inr (.inl (Int32.toInt64 (x0.1 - 1)))] x0.2.2).bind fun x1 => if x1.1 = 0 then (some ((-3), 0, x1.2.2)) else (zgd (zin p0 30) (some ((x1.2.2.1 0 79 (Int32.toNatClampNeg p0)), 0, x1.2.2))) : zR)) (zev d) :=
  (zev_m (T := zT_267) rfl rfl).trans ((zrun_eq (zev d) zT_267 [] 22 _ _ _ _).trans (by rfl))

/-- X12_many (I)I -/
theorem ez_268 (d : Nat) (p0 : Int32) (σ : zM) : zev (d + 1) 268 [.inr (.inr (0, 60)), .inl p0] σ = (fun C : zC => (if p0 = 0 then (some ((σ.1 0 61 0), 0, σ)) else if p0 = 1 then (some ((σ.1 0 61 1), 0, σ)) else if p0 = 2 then (some ((σ.1 0 61 2), 0, σ)) else if p0 = 3 then (some ((σ.1 0 61 3), 0, σ)) else if p0 = 4 then (some ((σ.1 0 60 16), 0, σ)) else if p0 = 5 then (some ((σ.1 0 60 18), 0, σ)) else if p0 = 6 then ((C 266 [.inr (.inr (0, 60))] σ).bind fun x0 => some (x0.1, 0, x0.2.2)) else (some ((-1), 0, σ)) : zR)) (zev d) :=
  (zev_m (T := zT_268) rfl rfl).trans ((zrun_eq (zev d) zT_268 [] 38 _ _ _ _).trans (by rfl))

/-- X12_keep ()I -/
theorem ez_269 (d : Nat)  (σ : zM) : zev (d + 1) 269 [.inr (.inr (0, 60))] σ = (fun C : zC => (zrun C zT_269 2 [some (.inr (.inr (0, 60))), some (.inl 0)] [] σ : zR)) (zev d) :=
  (zev_m (T := zT_269) rfl rfl).trans ((zrun_eq (zev d) zT_269 [2] 25 _ _ _ _).trans (by rfl))
theorem ez_269_2 (C : zC) (a1 : Int32) (σ : zM) : zrun C zT_269 2 [some (.inr (.inr (0, 60))), some (.inl a1)] [] σ = if a1 < 320 then (zgd (zin a1 320) (zgd (zin a1 320) (zrun C zT_269 2 [some (.inr (.inr (0, 60))), some (.inl (a1 + 1))] [] (zwI σ 0 62 (Int32.toNatClampNeg a1) (σ.1 0 61 (Int32.toNatClampNeg a1)))))) else (zgd (z01 1) (some (1, 0, zwI σ 0 60 3 1))) :=
  (zrun_eq C zT_269 [2] 25 _ _ _ _).trans (by rfl)

/-- X12_again ()I -/
theorem ez_270 (d : Nat)  (σ : zM) : zev (d + 1) 270 [.inr (.inr (0, 60))] σ = (fun C : zC => (if (σ.1 0 60 3) = 0 then (some ((-3), 0, σ)) else (zrun C zT_270 12 [some (.inr (.inr (0, 60))), some (.inl 0)] [] σ) : zR)) (zev d) :=
  (zev_m (T := zT_270) rfl rfl).trans ((zrun_eq (zev d) zT_270 [12] 30 _ _ _ _).trans (by rfl))
theorem ez_270_12 (C : zC) (a1 : Int32) (σ : zM) : zrun C zT_270 12 [some (.inr (.inr (0, 60))), some (.inl a1)] [] σ = if a1 < 320 then (zgd (zin a1 320) (zgd (zin a1 320) (zrun C zT_270 12 [some (.inr (.inr (0, 60))), some (.inl (a1 + 1))] [] (zwI σ 0 61 (Int32.toNatClampNeg a1) (σ.1 0 62 (Int32.toNatClampNeg a1)))))) else (some ((σ.1 0 61 0), 0, σ)) :=
  (zrun_eq C zT_270 [12] 30 _ _ _ _).trans (by rfl)
end
