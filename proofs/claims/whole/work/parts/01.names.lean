-- ===== PART A: goes FIRST, ahead of the names: the tables' words, and 'selects' of the private methods out of them =====
/-- a private method of a class that the tables say can be made, by its rows of tables_1 -/
def lw_okq (q : MethodName × Nat) : Prop := (q.1.cls ≠ "java/lang/invoke/MethodHandle" ∧ q.1.cls ≠ "java/lang/invoke/VarHandle") ∧ Cond.instantiable q.1.cls q.2 ∈ tables_1 ∧ Cond.privateMethod q.1 ∈ tables_1 ∧ Cond.instanceMethod q.1 ∈ tables_1
theorem lw_p0 : lw_okq (⟨"HoleFair$Lake", "spread", "(III)V"⟩, 15) := ⟨⟨by decide +kernel, by decide +kernel⟩, List.mem_of_getElem? (i := 30) (by decide +kernel), List.mem_of_getElem? (i := 357) (by decide +kernel), List.mem_of_getElem? (i := 358) (by decide +kernel)⟩
theorem lw_p1 : lw_okq (⟨"HoleFair$LawReader", "letterOfClause", "(I)V"⟩, 5) := ⟨⟨by decide +kernel, by decide +kernel⟩, List.mem_of_getElem? (i := 208) (by decide +kernel), List.mem_of_getElem? (i := 399) (by decide +kernel), List.mem_of_getElem? (i := 400) (by decide +kernel)⟩
theorem lw_p2 : lw_okq (⟨"HoleFair$LawReader", "next", "()I"⟩, 5) := ⟨⟨by decide +kernel, by decide +kernel⟩, List.mem_of_getElem? (i := 208) (by decide +kernel), List.mem_of_getElem? (i := 403) (by decide +kernel), List.mem_of_getElem? (i := 404) (by decide +kernel)⟩
theorem lw_p3 : lw_okq (⟨"HoleFair$LawReader", "blame", "(I)V"⟩, 5) := ⟨⟨by decide +kernel, by decide +kernel⟩, List.mem_of_getElem? (i := 208) (by decide +kernel), List.mem_of_getElem? (i := 407) (by decide +kernel), List.mem_of_getElem? (i := 408) (by decide +kernel)⟩
theorem lw_p4 : lw_okq (⟨"HoleFair$LawReader", "expression", "(I)V"⟩, 5) := ⟨⟨by decide +kernel, by decide +kernel⟩, List.mem_of_getElem? (i := 208) (by decide +kernel), List.mem_of_getElem? (i := 415) (by decide +kernel), List.mem_of_getElem? (i := 416) (by decide +kernel)⟩
theorem lw_p5 : lw_okq (⟨"HoleFair$LawReader", "factor", "(I)V"⟩, 5) := ⟨⟨by decide +kernel, by decide +kernel⟩, List.mem_of_getElem? (i := 208) (by decide +kernel), List.mem_of_getElem? (i := 419) (by decide +kernel), List.mem_of_getElem? (i := 420) (by decide +kernel)⟩
theorem lw_p6 : lw_okq (⟨"HoleFair$LawReader", "number", "()V"⟩, 5) := ⟨⟨by decide +kernel, by decide +kernel⟩, List.mem_of_getElem? (i := 208) (by decide +kernel), List.mem_of_getElem? (i := 426) (by decide +kernel), List.mem_of_getElem? (i := 427) (by decide +kernel)⟩
theorem lw_p7 : lw_okq (⟨"HoleFair$LawReader", "enter", "(I)Z"⟩, 5) := ⟨⟨by decide +kernel, by decide +kernel⟩, List.mem_of_getElem? (i := 208) (by decide +kernel), List.mem_of_getElem? (i := 434) (by decide +kernel), List.mem_of_getElem? (i := 435) (by decide +kernel)⟩
theorem lw_p8 : lw_okq (⟨"HoleFair$LawReader", "take", "(I)V"⟩, 5) := ⟨⟨by decide +kernel, by decide +kernel⟩, List.mem_of_getElem? (i := 208) (by decide +kernel), List.mem_of_getElem? (i := 438) (by decide +kernel), List.mem_of_getElem? (i := 439) (by decide +kernel)⟩
theorem lw_p9 : lw_okq (⟨"HoleFair$LawReader", "letter", "(I)V"⟩, 5) := ⟨⟨by decide +kernel, by decide +kernel⟩, List.mem_of_getElem? (i := 208) (by decide +kernel), List.mem_of_getElem? (i := 442) (by decide +kernel), List.mem_of_getElem? (i := 443) (by decide +kernel)⟩
theorem lw_p10 : lw_okq (⟨"HoleFair$LawReader", "condition", "(I)V"⟩, 5) := ⟨⟨by decide +kernel, by decide +kernel⟩, List.mem_of_getElem? (i := 208) (by decide +kernel), List.mem_of_getElem? (i := 537) (by decide +kernel), List.mem_of_getElem? (i := 538) (by decide +kernel)⟩
theorem lw_p11 : lw_okq (⟨"HoleFair$LawReader", "piece", "(I)V"⟩, 5) := ⟨⟨by decide +kernel, by decide +kernel⟩, List.mem_of_getElem? (i := 208) (by decide +kernel), List.mem_of_getElem? (i := 541) (by decide +kernel), List.mem_of_getElem? (i := 542) (by decide +kernel)⟩
theorem lw_p12 : lw_okq (⟨"HoleFair$Law", "reckon", "(I)I"⟩, 10) := ⟨⟨by decide +kernel, by decide +kernel⟩, List.mem_of_getElem? (i := 162) (by decide +kernel), List.mem_of_getElem? (i := 587) (by decide +kernel), List.mem_of_getElem? (i := 588) (by decide +kernel)⟩
theorem lw_p13 : lw_okq (⟨"HoleFair$Law", "valueOf", "(I)I"⟩, 10) := ⟨⟨by decide +kernel, by decide +kernel⟩, List.mem_of_getElem? (i := 162) (by decide +kernel), List.mem_of_getElem? (i := 591) (by decide +kernel), List.mem_of_getElem? (i := 592) (by decide +kernel)⟩
theorem lw_p14 : lw_okq (⟨"HoleFair$Law", "join", "(III)I"⟩, 10) := ⟨⟨by decide +kernel, by decide +kernel⟩, List.mem_of_getElem? (i := 162) (by decide +kernel), List.mem_of_getElem? (i := 595) (by decide +kernel), List.mem_of_getElem? (i := 596) (by decide +kernel)⟩
theorem lw_p15 : lw_okq (⟨"HoleFair$Lake", "isHole", "(III)Z"⟩, 15) := ⟨⟨by decide +kernel, by decide +kernel⟩, List.mem_of_getElem? (i := 30) (by decide +kernel), List.mem_of_getElem? (i := 605) (by decide +kernel), List.mem_of_getElem? (i := 606) (by decide +kernel)⟩
def lw_privs_1 : List (MethodName × Nat) := [(⟨"HoleFair$Lake", "spread", "(III)V"⟩, 15), (⟨"HoleFair$LawReader", "letterOfClause", "(I)V"⟩, 5), (⟨"HoleFair$LawReader", "next", "()I"⟩, 5), (⟨"HoleFair$LawReader", "blame", "(I)V"⟩, 5), (⟨"HoleFair$LawReader", "expression", "(I)V"⟩, 5), (⟨"HoleFair$LawReader", "factor", "(I)V"⟩, 5), (⟨"HoleFair$LawReader", "number", "()V"⟩, 5), (⟨"HoleFair$LawReader", "enter", "(I)Z"⟩, 5), (⟨"HoleFair$LawReader", "take", "(I)V"⟩, 5), (⟨"HoleFair$LawReader", "letter", "(I)V"⟩, 5), (⟨"HoleFair$LawReader", "condition", "(I)V"⟩, 5), (⟨"HoleFair$LawReader", "piece", "(I)V"⟩, 5), (⟨"HoleFair$Law", "reckon", "(I)I"⟩, 10), (⟨"HoleFair$Law", "valueOf", "(I)I"⟩, 10), (⟨"HoleFair$Law", "join", "(III)I"⟩, 10), (⟨"HoleFair$Lake", "isHole", "(III)Z"⟩, 15)]
theorem lw_r1 : ∀ q ∈ lw_privs_1, lw_okq q := List.forall_mem_cons.mpr ⟨lw_p0, List.forall_mem_cons.mpr ⟨lw_p1, List.forall_mem_cons.mpr ⟨lw_p2, List.forall_mem_cons.mpr ⟨lw_p3, List.forall_mem_cons.mpr ⟨lw_p4, List.forall_mem_cons.mpr ⟨lw_p5, List.forall_mem_cons.mpr ⟨lw_p6, List.forall_mem_cons.mpr ⟨lw_p7, List.forall_mem_cons.mpr ⟨lw_p8, List.forall_mem_cons.mpr ⟨lw_p9, List.forall_mem_cons.mpr ⟨lw_p10, List.forall_mem_cons.mpr ⟨lw_p11, List.forall_mem_cons.mpr ⟨lw_p12, List.forall_mem_cons.mpr ⟨lw_p13, List.forall_mem_cons.mpr ⟨lw_p14, List.forall_mem_cons.mpr ⟨lw_p15, fun _ h => absurd h List.not_mem_nil⟩⟩⟩⟩⟩⟩⟩⟩⟩⟩⟩⟩⟩⟩⟩⟩
theorem lw_p16 : lw_okq (⟨"HoleFair$Nature", "findOverloaded", "(LHoleFair$Lake;)I"⟩, 2) := ⟨⟨by decide +kernel, by decide +kernel⟩, List.mem_of_getElem? (i := 156) (by decide +kernel), List.mem_of_getElem? (i := 647) (by decide +kernel), List.mem_of_getElem? (i := 648) (by decide +kernel)⟩
theorem lw_p17 : lw_okq (⟨"HoleFair$Nature", "isListed", "(II)Z"⟩, 2) := ⟨⟨by decide +kernel, by decide +kernel⟩, List.mem_of_getElem? (i := 156) (by decide +kernel), List.mem_of_getElem? (i := 652) (by decide +kernel), List.mem_of_getElem? (i := 653) (by decide +kernel)⟩
theorem lw_p18 : lw_okq (⟨"HoleFair$Nature", "thaw", "(LHoleFair$Lake;)V"⟩, 2) := ⟨⟨by decide +kernel, by decide +kernel⟩, List.mem_of_getElem? (i := 156) (by decide +kernel), List.mem_of_getElem? (i := 681) (by decide +kernel), List.mem_of_getElem? (i := 682) (by decide +kernel)⟩
theorem lw_p19 : lw_okq (⟨"HoleFair$Nature", "walk", "(LHoleFair$Lake;II)V"⟩, 2) := ⟨⟨by decide +kernel, by decide +kernel⟩, List.mem_of_getElem? (i := 156) (by decide +kernel), List.mem_of_getElem? (i := 724) (by decide +kernel), List.mem_of_getElem? (i := 725) (by decide +kernel)⟩
theorem lw_p20 : lw_okq (⟨"HoleFair$Nature", "bearingTime", "(LHoleFair$Lake;III)I"⟩, 2) := ⟨⟨by decide +kernel, by decide +kernel⟩, List.mem_of_getElem? (i := 156) (by decide +kernel), List.mem_of_getElem? (i := 790) (by decide +kernel), List.mem_of_getElem? (i := 791) (by decide +kernel)⟩
theorem lw_p21 : lw_okq (⟨"HoleFair$Sites", "bar", "(LHoleFair$Lake;LHoleFair$Told;II)V"⟩, 4) := ⟨⟨by decide +kernel, by decide +kernel⟩, List.mem_of_getElem? (i := 232) (by decide +kernel), List.mem_of_getElem? (i := 827) (by decide +kernel), List.mem_of_getElem? (i := 828) (by decide +kernel)⟩
theorem lw_p22 : lw_okq (⟨"HoleFair$Sites", "isFine", "(II)Z"⟩, 4) := ⟨⟨by decide +kernel, by decide +kernel⟩, List.mem_of_getElem? (i := 232) (by decide +kernel), List.mem_of_getElem? (i := 841) (by decide +kernel), List.mem_of_getElem? (i := 842) (by decide +kernel)⟩
theorem lw_p23 : lw_okq (⟨"HoleFair$Sites", "isBetter", "(II)Z"⟩, 4) := ⟨⟨by decide +kernel, by decide +kernel⟩, List.mem_of_getElem? (i := 232) (by decide +kernel), List.mem_of_getElem? (i := 845) (by decide +kernel), List.mem_of_getElem? (i := 846) (by decide +kernel)⟩
theorem lw_p24 : lw_okq (⟨"HoleFair$Closing", "list", "(LHoleFair$Lake;LHoleFair$Nature;II)V"⟩, 7) := ⟨⟨by decide +kernel, by decide +kernel⟩, List.mem_of_getElem? (i := 252) (by decide +kernel), List.mem_of_getElem? (i := 873) (by decide +kernel), List.mem_of_getElem? (i := 874) (by decide +kernel)⟩
theorem lw_p25 : lw_okq (⟨"HoleFair$Closing", "costOf", "(II)I"⟩, 7) := ⟨⟨by decide +kernel, by decide +kernel⟩, List.mem_of_getElem? (i := 252) (by decide +kernel), List.mem_of_getElem? (i := 879) (by decide +kernel), List.mem_of_getElem? (i := 880) (by decide +kernel)⟩
theorem lw_p26 : lw_okq (⟨"HoleFair$Closing", "nextBehind", "(I)I"⟩, 7) := ⟨⟨by decide +kernel, by decide +kernel⟩, List.mem_of_getElem? (i := 252) (by decide +kernel), List.mem_of_getElem? (i := 892) (by decide +kernel), List.mem_of_getElem? (i := 893) (by decide +kernel)⟩
theorem lw_p27 : lw_okq (⟨"HoleFair$Rescue", "spreadFrom", "(I)V"⟩, 5) := ⟨⟨by decide +kernel, by decide +kernel⟩, List.mem_of_getElem? (i := 280) (by decide +kernel), List.mem_of_getElem? (i := 911) (by decide +kernel), List.mem_of_getElem? (i := 912) (by decide +kernel)⟩
theorem lw_p28 : lw_okq (⟨"HoleFair$Rescue", "isBettered", "(II)Z"⟩, 5) := ⟨⟨by decide +kernel, by decide +kernel⟩, List.mem_of_getElem? (i := 280) (by decide +kernel), List.mem_of_getElem? (i := 923) (by decide +kernel), List.mem_of_getElem? (i := 924) (by decide +kernel)⟩
theorem lw_p29 : lw_okq (⟨"HoleFair$Rescue", "nextFrom", "(I)I"⟩, 5) := ⟨⟨by decide +kernel, by decide +kernel⟩, List.mem_of_getElem? (i := 280) (by decide +kernel), List.mem_of_getElem? (i := 939) (by decide +kernel), List.mem_of_getElem? (i := 940) (by decide +kernel)⟩
theorem lw_p30 : lw_okq (⟨"HoleFair", "feeOf", "(II)I"⟩, 11) := ⟨⟨by decide +kernel, by decide +kernel⟩, List.mem_of_getElem? (i := 22) (by decide +kernel), List.mem_of_getElem? (i := 975) (by decide +kernel), List.mem_of_getElem? (i := 976) (by decide +kernel)⟩
theorem lw_p31 : lw_okq (⟨"HoleFair", "firstWrong", "(II)I"⟩, 11) := ⟨⟨by decide +kernel, by decide +kernel⟩, List.mem_of_getElem? (i := 22) (by decide +kernel), List.mem_of_getElem? (i := 1012) (by decide +kernel), List.mem_of_getElem? (i := 1013) (by decide +kernel)⟩
def lw_privs_2 : List (MethodName × Nat) := [(⟨"HoleFair$Nature", "findOverloaded", "(LHoleFair$Lake;)I"⟩, 2), (⟨"HoleFair$Nature", "isListed", "(II)Z"⟩, 2), (⟨"HoleFair$Nature", "thaw", "(LHoleFair$Lake;)V"⟩, 2), (⟨"HoleFair$Nature", "walk", "(LHoleFair$Lake;II)V"⟩, 2), (⟨"HoleFair$Nature", "bearingTime", "(LHoleFair$Lake;III)I"⟩, 2), (⟨"HoleFair$Sites", "bar", "(LHoleFair$Lake;LHoleFair$Told;II)V"⟩, 4), (⟨"HoleFair$Sites", "isFine", "(II)Z"⟩, 4), (⟨"HoleFair$Sites", "isBetter", "(II)Z"⟩, 4), (⟨"HoleFair$Closing", "list", "(LHoleFair$Lake;LHoleFair$Nature;II)V"⟩, 7), (⟨"HoleFair$Closing", "costOf", "(II)I"⟩, 7), (⟨"HoleFair$Closing", "nextBehind", "(I)I"⟩, 7), (⟨"HoleFair$Rescue", "spreadFrom", "(I)V"⟩, 5), (⟨"HoleFair$Rescue", "isBettered", "(II)Z"⟩, 5), (⟨"HoleFair$Rescue", "nextFrom", "(I)I"⟩, 5), (⟨"HoleFair", "feeOf", "(II)I"⟩, 11), (⟨"HoleFair", "firstWrong", "(II)I"⟩, 11)]
theorem lw_r2 : ∀ q ∈ lw_privs_2, lw_okq q := List.forall_mem_cons.mpr ⟨lw_p16, List.forall_mem_cons.mpr ⟨lw_p17, List.forall_mem_cons.mpr ⟨lw_p18, List.forall_mem_cons.mpr ⟨lw_p19, List.forall_mem_cons.mpr ⟨lw_p20, List.forall_mem_cons.mpr ⟨lw_p21, List.forall_mem_cons.mpr ⟨lw_p22, List.forall_mem_cons.mpr ⟨lw_p23, List.forall_mem_cons.mpr ⟨lw_p24, List.forall_mem_cons.mpr ⟨lw_p25, List.forall_mem_cons.mpr ⟨lw_p26, List.forall_mem_cons.mpr ⟨lw_p27, List.forall_mem_cons.mpr ⟨lw_p28, List.forall_mem_cons.mpr ⟨lw_p29, List.forall_mem_cons.mpr ⟨lw_p30, List.forall_mem_cons.mpr ⟨lw_p31, fun _ h => absurd h List.not_mem_nil⟩⟩⟩⟩⟩⟩⟩⟩⟩⟩⟩⟩⟩⟩⟩⟩
theorem lw_p32 : lw_okq (⟨"HoleFairModel", "push", "(I)V"⟩, 70) := ⟨⟨by decide +kernel, by decide +kernel⟩, List.mem_of_getElem? (i := 1031) (by decide +kernel), List.mem_of_getElem? (i := 1267) (by decide +kernel), List.mem_of_getElem? (i := 1268) (by decide +kernel)⟩
theorem lw_p33 : lw_okq (⟨"HoleFairModel", "isGood", "()Z"⟩, 70) := ⟨⟨by decide +kernel, by decide +kernel⟩, List.mem_of_getElem? (i := 1031) (by decide +kernel), List.mem_of_getElem? (i := 1276) (by decide +kernel), List.mem_of_getElem? (i := 1277) (by decide +kernel)⟩
theorem lw_p34 : lw_okq (⟨"HoleFairModel", "clause", "()V"⟩, 70) := ⟨⟨by decide +kernel, by decide +kernel⟩, List.mem_of_getElem? (i := 1031) (by decide +kernel), List.mem_of_getElem? (i := 1280) (by decide +kernel), List.mem_of_getElem? (i := 1281) (by decide +kernel)⟩
theorem lw_p35 : lw_okq (⟨"HoleFairModel", "here", "()I"⟩, 70) := ⟨⟨by decide +kernel, by decide +kernel⟩, List.mem_of_getElem? (i := 1031) (by decide +kernel), List.mem_of_getElem? (i := 1284) (by decide +kernel), List.mem_of_getElem? (i := 1285) (by decide +kernel)⟩
theorem lw_p36 : lw_okq (⟨"HoleFairModel", "wrongs", "(II)V"⟩, 70) := ⟨⟨by decide +kernel, by decide +kernel⟩, List.mem_of_getElem? (i := 1031) (by decide +kernel), List.mem_of_getElem? (i := 1288) (by decide +kernel), List.mem_of_getElem? (i := 1289) (by decide +kernel)⟩
theorem lw_p37 : lw_okq (⟨"HoleFairModel", "value", "()V"⟩, 70) := ⟨⟨by decide +kernel, by decide +kernel⟩, List.mem_of_getElem? (i := 1031) (by decide +kernel), List.mem_of_getElem? (i := 1292) (by decide +kernel), List.mem_of_getElem? (i := 1293) (by decide +kernel)⟩
theorem lw_p38 : lw_okq (⟨"HoleFairModel", "factor", "()V"⟩, 70) := ⟨⟨by decide +kernel, by decide +kernel⟩, List.mem_of_getElem? (i := 1031) (by decide +kernel), List.mem_of_getElem? (i := 1296) (by decide +kernel), List.mem_of_getElem? (i := 1297) (by decide +kernel)⟩
theorem lw_p39 : lw_okq (⟨"HoleFairModel", "opens", "()V"⟩, 70) := ⟨⟨by decide +kernel, by decide +kernel⟩, List.mem_of_getElem? (i := 1031) (by decide +kernel), List.mem_of_getElem? (i := 1300) (by decide +kernel), List.mem_of_getElem? (i := 1301) (by decide +kernel)⟩
theorem lw_p40 : lw_okq (⟨"HoleFairModel", "puts", "(I)V"⟩, 70) := ⟨⟨by decide +kernel, by decide +kernel⟩, List.mem_of_getElem? (i := 1031) (by decide +kernel), List.mem_of_getElem? (i := 1304) (by decide +kernel), List.mem_of_getElem? (i := 1305) (by decide +kernel)⟩
theorem lw_p41 : lw_okq (⟨"HoleFairModel", "seesDigit", "()Z"⟩, 70) := ⟨⟨by decide +kernel, by decide +kernel⟩, List.mem_of_getElem? (i := 1031) (by decide +kernel), List.mem_of_getElem? (i := 1308) (by decide +kernel), List.mem_of_getElem? (i := 1309) (by decide +kernel)⟩
theorem lw_p42 : lw_okq (⟨"HoleFairModel", "reads", "()I"⟩, 70) := ⟨⟨by decide +kernel, by decide +kernel⟩, List.mem_of_getElem? (i := 1031) (by decide +kernel), List.mem_of_getElem? (i := 1314) (by decide +kernel), List.mem_of_getElem? (i := 1315) (by decide +kernel)⟩
theorem lw_p43 : lw_okq (⟨"HoleFairModel", "emit", "(II)V"⟩, 70) := ⟨⟨by decide +kernel, by decide +kernel⟩, List.mem_of_getElem? (i := 1031) (by decide +kernel), List.mem_of_getElem? (i := 1318) (by decide +kernel), List.mem_of_getElem? (i := 1319) (by decide +kernel)⟩
theorem lw_p44 : lw_okq (⟨"HoleFairModel", "stays", "()Z"⟩, 70) := ⟨⟨by decide +kernel, by decide +kernel⟩, List.mem_of_getElem? (i := 1031) (by decide +kernel), List.mem_of_getElem? (i := 1325) (by decide +kernel), List.mem_of_getElem? (i := 1326) (by decide +kernel)⟩
theorem lw_p45 : lw_okq (⟨"HoleFairModel", "sums", "(Z)V"⟩, 70) := ⟨⟨by decide +kernel, by decide +kernel⟩, List.mem_of_getElem? (i := 1031) (by decide +kernel), List.mem_of_getElem? (i := 1335) (by decide +kernel), List.mem_of_getElem? (i := 1336) (by decide +kernel)⟩
theorem lw_p46 : lw_okq (⟨"HoleFairModel", "top", "()I"⟩, 70) := ⟨⟨by decide +kernel, by decide +kernel⟩, List.mem_of_getElem? (i := 1031) (by decide +kernel), List.mem_of_getElem? (i := 1339) (by decide +kernel), List.mem_of_getElem? (i := 1340) (by decide +kernel)⟩
theorem lw_p47 : lw_okq (⟨"HoleFairModel", "condition", "()V"⟩, 70) := ⟨⟨by decide +kernel, by decide +kernel⟩, List.mem_of_getElem? (i := 1031) (by decide +kernel), List.mem_of_getElem? (i := 1343) (by decide +kernel), List.mem_of_getElem? (i := 1344) (by decide +kernel)⟩
def lw_privs_3 : List (MethodName × Nat) := [(⟨"HoleFairModel", "push", "(I)V"⟩, 70), (⟨"HoleFairModel", "isGood", "()Z"⟩, 70), (⟨"HoleFairModel", "clause", "()V"⟩, 70), (⟨"HoleFairModel", "here", "()I"⟩, 70), (⟨"HoleFairModel", "wrongs", "(II)V"⟩, 70), (⟨"HoleFairModel", "value", "()V"⟩, 70), (⟨"HoleFairModel", "factor", "()V"⟩, 70), (⟨"HoleFairModel", "opens", "()V"⟩, 70), (⟨"HoleFairModel", "puts", "(I)V"⟩, 70), (⟨"HoleFairModel", "seesDigit", "()Z"⟩, 70), (⟨"HoleFairModel", "reads", "()I"⟩, 70), (⟨"HoleFairModel", "emit", "(II)V"⟩, 70), (⟨"HoleFairModel", "stays", "()Z"⟩, 70), (⟨"HoleFairModel", "sums", "(Z)V"⟩, 70), (⟨"HoleFairModel", "top", "()I"⟩, 70), (⟨"HoleFairModel", "condition", "()V"⟩, 70)]
theorem lw_r3 : ∀ q ∈ lw_privs_3, lw_okq q := List.forall_mem_cons.mpr ⟨lw_p32, List.forall_mem_cons.mpr ⟨lw_p33, List.forall_mem_cons.mpr ⟨lw_p34, List.forall_mem_cons.mpr ⟨lw_p35, List.forall_mem_cons.mpr ⟨lw_p36, List.forall_mem_cons.mpr ⟨lw_p37, List.forall_mem_cons.mpr ⟨lw_p38, List.forall_mem_cons.mpr ⟨lw_p39, List.forall_mem_cons.mpr ⟨lw_p40, List.forall_mem_cons.mpr ⟨lw_p41, List.forall_mem_cons.mpr ⟨lw_p42, List.forall_mem_cons.mpr ⟨lw_p43, List.forall_mem_cons.mpr ⟨lw_p44, List.forall_mem_cons.mpr ⟨lw_p45, List.forall_mem_cons.mpr ⟨lw_p46, List.forall_mem_cons.mpr ⟨lw_p47, fun _ h => absurd h List.not_mem_nil⟩⟩⟩⟩⟩⟩⟩⟩⟩⟩⟩⟩⟩⟩⟩⟩
theorem lw_p48 : lw_okq (⟨"HoleFairModel", "pieceOfC", "()V"⟩, 70) := ⟨⟨by decide +kernel, by decide +kernel⟩, List.mem_of_getElem? (i := 1031) (by decide +kernel), List.mem_of_getElem? (i := 1347) (by decide +kernel), List.mem_of_getElem? (i := 1348) (by decide +kernel)⟩
theorem lw_p49 : lw_okq (⟨"HoleFairModel", "ends", "()V"⟩, 70) := ⟨⟨by decide +kernel, by decide +kernel⟩, List.mem_of_getElem? (i := 1031) (by decide +kernel), List.mem_of_getElem? (i := 1354) (by decide +kernel), List.mem_of_getElem? (i := 1355) (by decide +kernel)⟩
theorem lw_p50 : lw_okq (⟨"HoleFairModel", "goesBehind", "()Z"⟩, 70) := ⟨⟨by decide +kernel, by decide +kernel⟩, List.mem_of_getElem? (i := 1031) (by decide +kernel), List.mem_of_getElem? (i := 1358) (by decide +kernel), List.mem_of_getElem? (i := 1359) (by decide +kernel)⟩
theorem lw_p51 : lw_okq (⟨"HoleFairModel", "joins", "(Z)V"⟩, 70) := ⟨⟨by decide +kernel, by decide +kernel⟩, List.mem_of_getElem? (i := 1031) (by decide +kernel), List.mem_of_getElem? (i := 1362) (by decide +kernel), List.mem_of_getElem? (i := 1363) (by decide +kernel)⟩
theorem lw_p52 : lw_okq (⟨"HoleFairModel", "isIce", "(I)Z"⟩, 70) := ⟨⟨by decide +kernel, by decide +kernel⟩, List.mem_of_getElem? (i := 1031) (by decide +kernel), List.mem_of_getElem? (i := 1375) (by decide +kernel), List.mem_of_getElem? (i := 1376) (by decide +kernel)⟩
theorem lw_p53 : lw_okq (⟨"HoleFairModel", "standsOn", "(I)Z"⟩, 70) := ⟨⟨by decide +kernel, by decide +kernel⟩, List.mem_of_getElem? (i := 1031) (by decide +kernel), List.mem_of_getElem? (i := 1379) (by decide +kernel), List.mem_of_getElem? (i := 1380) (by decide +kernel)⟩
theorem lw_p54 : lw_okq (⟨"HoleFairModel", "mayCut", "(II)Z"⟩, 70) := ⟨⟨by decide +kernel, by decide +kernel⟩, List.mem_of_getElem? (i := 1031) (by decide +kernel), List.mem_of_getElem? (i := 1383) (by decide +kernel), List.mem_of_getElem? (i := 1384) (by decide +kernel)⟩
theorem lw_p55 : lw_okq (⟨"HoleFairModel", "bySquare", "(IIII)I"⟩, 70) := ⟨⟨by decide +kernel, by decide +kernel⟩, List.mem_of_getElem? (i := 1031) (by decide +kernel), List.mem_of_getElem? (i := 1387) (by decide +kernel), List.mem_of_getElem? (i := 1388) (by decide +kernel)⟩
theorem lw_p56 : lw_okq (⟨"HoleFairModel", "tells", "(II)I"⟩, 70) := ⟨⟨by decide +kernel, by decide +kernel⟩, List.mem_of_getElem? (i := 1031) (by decide +kernel), List.mem_of_getElem? (i := 1391) (by decide +kernel), List.mem_of_getElem? (i := 1392) (by decide +kernel)⟩
theorem lw_p57 : lw_okq (⟨"HoleFairModel", "works", "(II)V"⟩, 70) := ⟨⟨by decide +kernel, by decide +kernel⟩, List.mem_of_getElem? (i := 1031) (by decide +kernel), List.mem_of_getElem? (i := 1395) (by decide +kernel), List.mem_of_getElem? (i := 1396) (by decide +kernel)⟩
theorem lw_p58 : lw_okq (⟨"HoleFairModel", "does", "(II)V"⟩, 70) := ⟨⟨by decide +kernel, by decide +kernel⟩, List.mem_of_getElem? (i := 1031) (by decide +kernel), List.mem_of_getElem? (i := 1399) (by decide +kernel), List.mem_of_getElem? (i := 1400) (by decide +kernel)⟩
theorem lw_p59 : lw_okq (⟨"HoleFairModel", "valueOf", "(I)I"⟩, 70) := ⟨⟨by decide +kernel, by decide +kernel⟩, List.mem_of_getElem? (i := 1031) (by decide +kernel), List.mem_of_getElem? (i := 1406) (by decide +kernel), List.mem_of_getElem? (i := 1407) (by decide +kernel)⟩
theorem lw_p60 : lw_okq (⟨"HoleFairModel", "gapsOf", "(I)I"⟩, 70) := ⟨⟨by decide +kernel, by decide +kernel⟩, List.mem_of_getElem? (i := 1031) (by decide +kernel), List.mem_of_getElem? (i := 1410) (by decide +kernel), List.mem_of_getElem? (i := 1411) (by decide +kernel)⟩
theorem lw_p61 : lw_okq (⟨"HoleFairModel", "warmthOf", "(I)I"⟩, 70) := ⟨⟨by decide +kernel, by decide +kernel⟩, List.mem_of_getElem? (i := 1031) (by decide +kernel), List.mem_of_getElem? (i := 1417) (by decide +kernel), List.mem_of_getElem? (i := 1418) (by decide +kernel)⟩
theorem lw_p62 : lw_okq (⟨"HoleFairModel", "drawnBy", "(I)I"⟩, 70) := ⟨⟨by decide +kernel, by decide +kernel⟩, List.mem_of_getElem? (i := 1031) (by decide +kernel), List.mem_of_getElem? (i := 1421) (by decide +kernel), List.mem_of_getElem? (i := 1422) (by decide +kernel)⟩
theorem lw_p63 : lw_okq (⟨"HoleFairModel", "nearGroups", "(I)I"⟩, 70) := ⟨⟨by decide +kernel, by decide +kernel⟩, List.mem_of_getElem? (i := 1031) (by decide +kernel), List.mem_of_getElem? (i := 1431) (by decide +kernel), List.mem_of_getElem? (i := 1432) (by decide +kernel)⟩
def lw_privs_4 : List (MethodName × Nat) := [(⟨"HoleFairModel", "pieceOfC", "()V"⟩, 70), (⟨"HoleFairModel", "ends", "()V"⟩, 70), (⟨"HoleFairModel", "goesBehind", "()Z"⟩, 70), (⟨"HoleFairModel", "joins", "(Z)V"⟩, 70), (⟨"HoleFairModel", "isIce", "(I)Z"⟩, 70), (⟨"HoleFairModel", "standsOn", "(I)Z"⟩, 70), (⟨"HoleFairModel", "mayCut", "(II)Z"⟩, 70), (⟨"HoleFairModel", "bySquare", "(IIII)I"⟩, 70), (⟨"HoleFairModel", "tells", "(II)I"⟩, 70), (⟨"HoleFairModel", "works", "(II)V"⟩, 70), (⟨"HoleFairModel", "does", "(II)V"⟩, 70), (⟨"HoleFairModel", "valueOf", "(I)I"⟩, 70), (⟨"HoleFairModel", "gapsOf", "(I)I"⟩, 70), (⟨"HoleFairModel", "warmthOf", "(I)I"⟩, 70), (⟨"HoleFairModel", "drawnBy", "(I)I"⟩, 70), (⟨"HoleFairModel", "nearGroups", "(I)I"⟩, 70)]
theorem lw_r4 : ∀ q ∈ lw_privs_4, lw_okq q := List.forall_mem_cons.mpr ⟨lw_p48, List.forall_mem_cons.mpr ⟨lw_p49, List.forall_mem_cons.mpr ⟨lw_p50, List.forall_mem_cons.mpr ⟨lw_p51, List.forall_mem_cons.mpr ⟨lw_p52, List.forall_mem_cons.mpr ⟨lw_p53, List.forall_mem_cons.mpr ⟨lw_p54, List.forall_mem_cons.mpr ⟨lw_p55, List.forall_mem_cons.mpr ⟨lw_p56, List.forall_mem_cons.mpr ⟨lw_p57, List.forall_mem_cons.mpr ⟨lw_p58, List.forall_mem_cons.mpr ⟨lw_p59, List.forall_mem_cons.mpr ⟨lw_p60, List.forall_mem_cons.mpr ⟨lw_p61, List.forall_mem_cons.mpr ⟨lw_p62, List.forall_mem_cons.mpr ⟨lw_p63, fun _ h => absurd h List.not_mem_nil⟩⟩⟩⟩⟩⟩⟩⟩⟩⟩⟩⟩⟩⟩⟩⟩
theorem lw_p64 : lw_okq (⟨"HoleFairModel", "makesRow", "(I)Z"⟩, 70) := ⟨⟨by decide +kernel, by decide +kernel⟩, List.mem_of_getElem? (i := 1031) (by decide +kernel), List.mem_of_getElem? (i := 1435) (by decide +kernel), List.mem_of_getElem? (i := 1436) (by decide +kernel)⟩
theorem lw_p65 : lw_okq (⟨"HoleFairModel", "isOpenAt", "(I)Z"⟩, 70) := ⟨⟨by decide +kernel, by decide +kernel⟩, List.mem_of_getElem? (i := 1031) (by decide +kernel), List.mem_of_getElem? (i := 1439) (by decide +kernel), List.mem_of_getElem? (i := 1440) (by decide +kernel)⟩
theorem lw_p66 : lw_okq (⟨"HoleFairModel", "isOpen", "(I)Z"⟩, 70) := ⟨⟨by decide +kernel, by decide +kernel⟩, List.mem_of_getElem? (i := 1031) (by decide +kernel), List.mem_of_getElem? (i := 1447) (by decide +kernel), List.mem_of_getElem? (i := 1448) (by decide +kernel)⟩
theorem lw_p67 : lw_okq (⟨"HoleFairModel", "isHole", "(I)Z"⟩, 70) := ⟨⟨by decide +kernel, by decide +kernel⟩, List.mem_of_getElem? (i := 1031) (by decide +kernel), List.mem_of_getElem? (i := 1451) (by decide +kernel), List.mem_of_getElem? (i := 1452) (by decide +kernel)⟩
theorem lw_p68 : lw_okq (⟨"HoleFairModel", "settles", "()I"⟩, 70) := ⟨⟨by decide +kernel, by decide +kernel⟩, List.mem_of_getElem? (i := 1031) (by decide +kernel), List.mem_of_getElem? (i := 1463) (by decide +kernel), List.mem_of_getElem? (i := 1464) (by decide +kernel)⟩
theorem lw_p69 : lw_okq (⟨"HoleFairModel", "carriedOn", "(I)I"⟩, 70) := ⟨⟨by decide +kernel, by decide +kernel⟩, List.mem_of_getElem? (i := 1031) (by decide +kernel), List.mem_of_getElem? (i := 1467) (by decide +kernel), List.mem_of_getElem? (i := 1468) (by decide +kernel)⟩
theorem lw_p70 : lw_okq (⟨"HoleFairModel", "bears", "(I)I"⟩, 70) := ⟨⟨by decide +kernel, by decide +kernel⟩, List.mem_of_getElem? (i := 1031) (by decide +kernel), List.mem_of_getElem? (i := 1471) (by decide +kernel), List.mem_of_getElem? (i := 1472) (by decide +kernel)⟩
theorem lw_p71 : lw_okq (⟨"HoleFairModel", "kindOn", "(I)I"⟩, 70) := ⟨⟨by decide +kernel, by decide +kernel⟩, List.mem_of_getElem? (i := 1031) (by decide +kernel), List.mem_of_getElem? (i := 1475) (by decide +kernel), List.mem_of_getElem? (i := 1476) (by decide +kernel)⟩
theorem lw_p72 : lw_okq (⟨"HoleFairModel", "breaks", "(I)V"⟩, 70) := ⟨⟨by decide +kernel, by decide +kernel⟩, List.mem_of_getElem? (i := 1031) (by decide +kernel), List.mem_of_getElem? (i := 1479) (by decide +kernel), List.mem_of_getElem? (i := 1480) (by decide +kernel)⟩
theorem lw_p73 : lw_okq (⟨"HoleFairModel", "drownedMany", "()I"⟩, 70) := ⟨⟨by decide +kernel, by decide +kernel⟩, List.mem_of_getElem? (i := 1031) (by decide +kernel), List.mem_of_getElem? (i := 1491) (by decide +kernel), List.mem_of_getElem? (i := 1492) (by decide +kernel)⟩
theorem lw_p74 : lw_okq (⟨"HoleFairModel", "minuteOne", "()V"⟩, 70) := ⟨⟨by decide +kernel, by decide +kernel⟩, List.mem_of_getElem? (i := 1031) (by decide +kernel), List.mem_of_getElem? (i := 1495) (by decide +kernel), List.mem_of_getElem? (i := 1496) (by decide +kernel)⟩
theorem lw_p75 : lw_okq (⟨"HoleFairModel", "thawsAll", "()V"⟩, 70) := ⟨⟨by decide +kernel, by decide +kernel⟩, List.mem_of_getElem? (i := 1031) (by decide +kernel), List.mem_of_getElem? (i := 1499) (by decide +kernel), List.mem_of_getElem? (i := 1500) (by decide +kernel)⟩
theorem lw_p76 : lw_okq (⟨"HoleFairModel", "goes", "(I)V"⟩, 70) := ⟨⟨by decide +kernel, by decide +kernel⟩, List.mem_of_getElem? (i := 1031) (by decide +kernel), List.mem_of_getElem? (i := 1503) (by decide +kernel), List.mem_of_getElem? (i := 1504) (by decide +kernel)⟩
theorem lw_p77 : lw_okq (⟨"HoleFairModel", "drawnTo", "(I)I"⟩, 70) := ⟨⟨by decide +kernel, by decide +kernel⟩, List.mem_of_getElem? (i := 1031) (by decide +kernel), List.mem_of_getElem? (i := 1507) (by decide +kernel), List.mem_of_getElem? (i := 1508) (by decide +kernel)⟩
theorem lw_p78 : lw_okq (⟨"HoleFairModel", "drawOf", "(II)I"⟩, 70) := ⟨⟨by decide +kernel, by decide +kernel⟩, List.mem_of_getElem? (i := 1031) (by decide +kernel), List.mem_of_getElem? (i := 1511) (by decide +kernel), List.mem_of_getElem? (i := 1512) (by decide +kernel)⟩
theorem lw_p79 : lw_okq (⟨"HoleFairModel", "setsAside", "(I)V"⟩, 70) := ⟨⟨by decide +kernel, by decide +kernel⟩, List.mem_of_getElem? (i := 1031) (by decide +kernel), List.mem_of_getElem? (i := 1523) (by decide +kernel), List.mem_of_getElem? (i := 1524) (by decide +kernel)⟩
def lw_privs_5 : List (MethodName × Nat) := [(⟨"HoleFairModel", "makesRow", "(I)Z"⟩, 70), (⟨"HoleFairModel", "isOpenAt", "(I)Z"⟩, 70), (⟨"HoleFairModel", "isOpen", "(I)Z"⟩, 70), (⟨"HoleFairModel", "isHole", "(I)Z"⟩, 70), (⟨"HoleFairModel", "settles", "()I"⟩, 70), (⟨"HoleFairModel", "carriedOn", "(I)I"⟩, 70), (⟨"HoleFairModel", "bears", "(I)I"⟩, 70), (⟨"HoleFairModel", "kindOn", "(I)I"⟩, 70), (⟨"HoleFairModel", "breaks", "(I)V"⟩, 70), (⟨"HoleFairModel", "drownedMany", "()I"⟩, 70), (⟨"HoleFairModel", "minuteOne", "()V"⟩, 70), (⟨"HoleFairModel", "thawsAll", "()V"⟩, 70), (⟨"HoleFairModel", "goes", "(I)V"⟩, 70), (⟨"HoleFairModel", "drawnTo", "(I)I"⟩, 70), (⟨"HoleFairModel", "drawOf", "(II)I"⟩, 70), (⟨"HoleFairModel", "setsAside", "(I)V"⟩, 70)]
theorem lw_r5 : ∀ q ∈ lw_privs_5, lw_okq q := List.forall_mem_cons.mpr ⟨lw_p64, List.forall_mem_cons.mpr ⟨lw_p65, List.forall_mem_cons.mpr ⟨lw_p66, List.forall_mem_cons.mpr ⟨lw_p67, List.forall_mem_cons.mpr ⟨lw_p68, List.forall_mem_cons.mpr ⟨lw_p69, List.forall_mem_cons.mpr ⟨lw_p70, List.forall_mem_cons.mpr ⟨lw_p71, List.forall_mem_cons.mpr ⟨lw_p72, List.forall_mem_cons.mpr ⟨lw_p73, List.forall_mem_cons.mpr ⟨lw_p74, List.forall_mem_cons.mpr ⟨lw_p75, List.forall_mem_cons.mpr ⟨lw_p76, List.forall_mem_cons.mpr ⟨lw_p77, List.forall_mem_cons.mpr ⟨lw_p78, List.forall_mem_cons.mpr ⟨lw_p79, fun _ h => absurd h List.not_mem_nil⟩⟩⟩⟩⟩⟩⟩⟩⟩⟩⟩⟩⟩⟩⟩⟩
theorem lw_p80 : lw_okq (⟨"HoleFairModel", "brokenMany", "()I"⟩, 70) := ⟨⟨by decide +kernel, by decide +kernel⟩, List.mem_of_getElem? (i := 1031) (by decide +kernel), List.mem_of_getElem? (i := 1527) (by decide +kernel), List.mem_of_getElem? (i := 1528) (by decide +kernel)⟩
theorem lw_p81 : lw_okq (⟨"HoleFairModel", "putsBack", "(I)V"⟩, 70) := ⟨⟨by decide +kernel, by decide +kernel⟩, List.mem_of_getElem? (i := 1031) (by decide +kernel), List.mem_of_getElem? (i := 1531) (by decide +kernel), List.mem_of_getElem? (i := 1532) (by decide +kernel)⟩
theorem lw_p82 : lw_okq (⟨"HoleFairModel", "isGroup", "(I)Z"⟩, 70) := ⟨⟨by decide +kernel, by decide +kernel⟩, List.mem_of_getElem? (i := 1031) (by decide +kernel), List.mem_of_getElem? (i := 1548) (by decide +kernel), List.mem_of_getElem? (i := 1549) (by decide +kernel)⟩
theorem lw_p83 : lw_okq (⟨"HoleFairModel", "soundFor", "(II)I"⟩, 70) := ⟨⟨by decide +kernel, by decide +kernel⟩, List.mem_of_getElem? (i := 1031) (by decide +kernel), List.mem_of_getElem? (i := 1564) (by decide +kernel), List.mem_of_getElem? (i := 1565) (by decide +kernel)⟩
theorem lw_p84 : lw_okq (⟨"HoleFairModel", "isSound", "(II)Z"⟩, 70) := ⟨⟨by decide +kernel, by decide +kernel⟩, List.mem_of_getElem? (i := 1031) (by decide +kernel), List.mem_of_getElem? (i := 1568) (by decide +kernel), List.mem_of_getElem? (i := 1569) (by decide +kernel)⟩
theorem lw_p85 : lw_okq (⟨"HoleFairModel", "takesTwos", "(I)Z"⟩, 70) := ⟨⟨by decide +kernel, by decide +kernel⟩, List.mem_of_getElem? (i := 1031) (by decide +kernel), List.mem_of_getElem? (i := 1576) (by decide +kernel), List.mem_of_getElem? (i := 1577) (by decide +kernel)⟩
theorem lw_p86 : lw_okq (⟨"HoleFairModel", "byteAt", "(I)I"⟩, 70) := ⟨⟨by decide +kernel, by decide +kernel⟩, List.mem_of_getElem? (i := 1031) (by decide +kernel), List.mem_of_getElem? (i := 1580) (by decide +kernel), List.mem_of_getElem? (i := 1581) (by decide +kernel)⟩
theorem lw_p87 : lw_okq (⟨"HoleFairModel", "isTwice", "()Z"⟩, 70) := ⟨⟨by decide +kernel, by decide +kernel⟩, List.mem_of_getElem? (i := 1031) (by decide +kernel), List.mem_of_getElem? (i := 1584) (by decide +kernel), List.mem_of_getElem? (i := 1585) (by decide +kernel)⟩
theorem lw_p88 : lw_okq (⟨"HoleFairModel", "isFineAlone", "(I)Z"⟩, 70) := ⟨⟨by decide +kernel, by decide +kernel⟩, List.mem_of_getElem? (i := 1031) (by decide +kernel), List.mem_of_getElem? (i := 1588) (by decide +kernel), List.mem_of_getElem? (i := 1589) (by decide +kernel)⟩
theorem lw_p89 : lw_okq (⟨"HoleFairModel", "worthOf", "(I)I"⟩, 70) := ⟨⟨by decide +kernel, by decide +kernel⟩, List.mem_of_getElem? (i := 1031) (by decide +kernel), List.mem_of_getElem? (i := 1595) (by decide +kernel), List.mem_of_getElem? (i := 1596) (by decide +kernel)⟩
theorem lw_p90 : lw_okq (⟨"HoleFairModel", "isFine", "(II)Z"⟩, 70) := ⟨⟨by decide +kernel, by decide +kernel⟩, List.mem_of_getElem? (i := 1031) (by decide +kernel), List.mem_of_getElem? (i := 1605) (by decide +kernel), List.mem_of_getElem? (i := 1606) (by decide +kernel)⟩
theorem lw_p91 : lw_okq (⟨"HoleFairModel", "hasNewRow", "(I)Z"⟩, 70) := ⟨⟨by decide +kernel, by decide +kernel⟩, List.mem_of_getElem? (i := 1031) (by decide +kernel), List.mem_of_getElem? (i := 1609) (by decide +kernel), List.mem_of_getElem? (i := 1610) (by decide +kernel)⟩
theorem lw_p92 : lw_okq (⟨"HoleFairModel", "isThen", "(I)Z"⟩, 70) := ⟨⟨by decide +kernel, by decide +kernel⟩, List.mem_of_getElem? (i := 1031) (by decide +kernel), List.mem_of_getElem? (i := 1613) (by decide +kernel), List.mem_of_getElem? (i := 1614) (by decide +kernel)⟩
theorem lw_p93 : lw_okq (⟨"HoleFairModel", "costBy", "(II)I"⟩, 70) := ⟨⟨by decide +kernel, by decide +kernel⟩, List.mem_of_getElem? (i := 1031) (by decide +kernel), List.mem_of_getElem? (i := 1623) (by decide +kernel), List.mem_of_getElem? (i := 1624) (by decide +kernel)⟩
theorem lw_p94 : lw_okq (⟨"HoleFairModel", "timeOf", "(I)I"⟩, 70) := ⟨⟨by decide +kernel, by decide +kernel⟩, List.mem_of_getElem? (i := 1031) (by decide +kernel), List.mem_of_getElem? (i := 1627) (by decide +kernel), List.mem_of_getElem? (i := 1628) (by decide +kernel)⟩
theorem lw_p95 : lw_okq (⟨"HoleFairModel", "laysTakes", "(II)V"⟩, 70) := ⟨⟨by decide +kernel, by decide +kernel⟩, List.mem_of_getElem? (i := 1031) (by decide +kernel), List.mem_of_getElem? (i := 1636) (by decide +kernel), List.mem_of_getElem? (i := 1637) (by decide +kernel)⟩
def lw_privs_6 : List (MethodName × Nat) := [(⟨"HoleFairModel", "brokenMany", "()I"⟩, 70), (⟨"HoleFairModel", "putsBack", "(I)V"⟩, 70), (⟨"HoleFairModel", "isGroup", "(I)Z"⟩, 70), (⟨"HoleFairModel", "soundFor", "(II)I"⟩, 70), (⟨"HoleFairModel", "isSound", "(II)Z"⟩, 70), (⟨"HoleFairModel", "takesTwos", "(I)Z"⟩, 70), (⟨"HoleFairModel", "byteAt", "(I)I"⟩, 70), (⟨"HoleFairModel", "isTwice", "()Z"⟩, 70), (⟨"HoleFairModel", "isFineAlone", "(I)Z"⟩, 70), (⟨"HoleFairModel", "worthOf", "(I)I"⟩, 70), (⟨"HoleFairModel", "isFine", "(II)Z"⟩, 70), (⟨"HoleFairModel", "hasNewRow", "(I)Z"⟩, 70), (⟨"HoleFairModel", "isThen", "(I)Z"⟩, 70), (⟨"HoleFairModel", "costBy", "(II)I"⟩, 70), (⟨"HoleFairModel", "timeOf", "(I)I"⟩, 70), (⟨"HoleFairModel", "laysTakes", "(II)V"⟩, 70)]
theorem lw_r6 : ∀ q ∈ lw_privs_6, lw_okq q := List.forall_mem_cons.mpr ⟨lw_p80, List.forall_mem_cons.mpr ⟨lw_p81, List.forall_mem_cons.mpr ⟨lw_p82, List.forall_mem_cons.mpr ⟨lw_p83, List.forall_mem_cons.mpr ⟨lw_p84, List.forall_mem_cons.mpr ⟨lw_p85, List.forall_mem_cons.mpr ⟨lw_p86, List.forall_mem_cons.mpr ⟨lw_p87, List.forall_mem_cons.mpr ⟨lw_p88, List.forall_mem_cons.mpr ⟨lw_p89, List.forall_mem_cons.mpr ⟨lw_p90, List.forall_mem_cons.mpr ⟨lw_p91, List.forall_mem_cons.mpr ⟨lw_p92, List.forall_mem_cons.mpr ⟨lw_p93, List.forall_mem_cons.mpr ⟨lw_p94, List.forall_mem_cons.mpr ⟨lw_p95, fun _ h => absurd h List.not_mem_nil⟩⟩⟩⟩⟩⟩⟩⟩⟩⟩⟩⟩⟩⟩⟩⟩
theorem lw_p96 : lw_okq (⟨"HoleFairModel", "takesBy", "(II)I"⟩, 70) := ⟨⟨by decide +kernel, by decide +kernel⟩, List.mem_of_getElem? (i := 1031) (by decide +kernel), List.mem_of_getElem? (i := 1640) (by decide +kernel), List.mem_of_getElem? (i := 1641) (by decide +kernel)⟩
theorem lw_p97 : lw_okq (⟨"HoleFairModel", "brokeJust", "(I)Z"⟩, 70) := ⟨⟨by decide +kernel, by decide +kernel⟩, List.mem_of_getElem? (i := 1031) (by decide +kernel), List.mem_of_getElem? (i := 1652) (by decide +kernel), List.mem_of_getElem? (i := 1653) (by decide +kernel)⟩
theorem lw_p98 : lw_okq (⟨"HoleFairModel", "wanders", "(II)V"⟩, 70) := ⟨⟨by decide +kernel, by decide +kernel⟩, List.mem_of_getElem? (i := 1031) (by decide +kernel), List.mem_of_getElem? (i := 1674) (by decide +kernel), List.mem_of_getElem? (i := 1675) (by decide +kernel)⟩
theorem lw_p99 : lw_okq (⟨"HoleFairModel", "numberAt", "(I)I"⟩, 70) := ⟨⟨by decide +kernel, by decide +kernel⟩, List.mem_of_getElem? (i := 1031) (by decide +kernel), List.mem_of_getElem? (i := 1691) (by decide +kernel), List.mem_of_getElem? (i := 1692) (by decide +kernel)⟩
def lw_privs_7 : List (MethodName × Nat) := [(⟨"HoleFairModel", "takesBy", "(II)I"⟩, 70), (⟨"HoleFairModel", "brokeJust", "(I)Z"⟩, 70), (⟨"HoleFairModel", "wanders", "(II)V"⟩, 70), (⟨"HoleFairModel", "numberAt", "(I)I"⟩, 70)]
theorem lw_r7 : ∀ q ∈ lw_privs_7, lw_okq q := List.forall_mem_cons.mpr ⟨lw_p96, List.forall_mem_cons.mpr ⟨lw_p97, List.forall_mem_cons.mpr ⟨lw_p98, List.forall_mem_cons.mpr ⟨lw_p99, fun _ h => absurd h List.not_mem_nil⟩⟩⟩⟩
def lw_privs : List (MethodName × Nat) := lw_privs_1 ++ (lw_privs_2 ++ (lw_privs_3 ++ (lw_privs_4 ++ (lw_privs_5 ++ (lw_privs_6 ++ (lw_privs_7))))))
def lw_tbl : List Cond := k2_sels lw_privs ++ tables_1
theorem lw_privs_ok : ∀ q ∈ lw_privs, lw_okq q := by
  show ∀ q ∈ lw_privs_1 ++ (lw_privs_2 ++ (lw_privs_3 ++ (lw_privs_4 ++ (lw_privs_5 ++ (lw_privs_6 ++ (lw_privs_7)))))), lw_okq q
  exact List.forall_mem_append.mpr ⟨lw_r1, List.forall_mem_append.mpr ⟨lw_r2, List.forall_mem_append.mpr ⟨lw_r3, List.forall_mem_append.mpr ⟨lw_r4, List.forall_mem_append.mpr ⟨lw_r5, List.forall_mem_append.mpr ⟨lw_r6, lw_r7⟩⟩⟩⟩⟩⟩
def RX0 : String := "HoleFair$Closing"
def TX0 : u_T := fun k => match k with
  | 0 => ("HoleFair$Closing", "hole", "[I", true)
  | 1 => ("HoleFair$Closing", "takes", "[I", true)
  | 2 => ("HoleFair$Closing", "until", "[I", true)
  | 3 => ("HoleFair$Closing", "loss", "[I", true)
  | 4 => ("HoleFair$Closing", "total", "I", false)
  | 5 => ("HoleFair$Closing", "time", "[I", true)
  | _ => ("HoleFair$Closing", "rest", "[I", true)
def tyX0 : Nat → FieldType := fun k => match k with
  | 0 => .array .int
  | 1 => .array .int
  | 2 => .array .int
  | 3 => .array .int
  | 4 => .int
  | 5 => .array .int
  | _ => .array .int
abbrev wsX00 : List Cond := u_ws RX0 TX0 7
theorem nmX0 : ∀ a, a < 7 → ∀ b, b < 7 → a ≠ b → (TX0 a).2.1 ≠ (TX0 b).2.1 := by decide +kernel
theorem tyX0_ok : ∀ k, k < 7 → parseFieldDescriptor (TX0 k).2.2.1 = some (tyX0 k) := by decide +kernel
abbrev cX0_init : ByteArray := prog_2_method_1_code
def yX0_init : MethodName := ⟨RX0, "<init>", "()V"⟩
abbrev cX0_solve : ByteArray := prog_2_method_2_code
def yX0_solve : MethodName := ⟨RX0, "solve", "(LHoleFair$Lake;LHoleFair$Nature;II)V"⟩
abbrev cX0_list : ByteArray := prog_2_method_3_code
def yX0_list : MethodName := ⟨RX0, "list", "(LHoleFair$Lake;LHoleFair$Nature;II)V"⟩
abbrev cX0_costOf : ByteArray := prog_2_method_4_code
def yX0_costOf : MethodName := ⟨RX0, "costOf", "(II)I"⟩
abbrev cX0_cost : ByteArray := prog_2_method_5_code
def yX0_cost : MethodName := ⟨RX0, "cost", "()I"⟩
abbrev cX0_holeAt : ByteArray := prog_2_method_6_code
def yX0_holeAt : MethodName := ⟨RX0, "holeAt", "(I)I"⟩
abbrev cX0_nextBehind : ByteArray := prog_2_method_7_code
def yX0_nextBehind : MethodName := ⟨RX0, "nextBehind", "(I)I"⟩
def RX1 : String := "HoleFair$Grid"
def TX1 : u_T := fun k => match k with
  | _ => ("", "", "", false)
def tyX1 : Nat → FieldType := fun k => match k with
  | _ => .int
abbrev wsX10 : List Cond := u_ws RX1 TX1 0
theorem nmX1 : ∀ a, a < 0 → ∀ b, b < 0 → a ≠ b → (TX1 a).2.1 ≠ (TX1 b).2.1 := by decide +kernel
theorem tyX1_ok : ∀ k, k < 0 → parseFieldDescriptor (TX1 k).2.2.1 = some (tyX1 k) := by decide +kernel
abbrev cX1_has : ByteArray := prog_3_method_2_code
def yX1_has : MethodName := ⟨RX1, "has", "(II)Z"⟩
abbrev cX1_hasSquare : ByteArray := prog_3_method_3_code
def yX1_hasSquare : MethodName := ⟨RX1, "hasSquare", "(I)Z"⟩
abbrev cX1_at : ByteArray := prog_3_method_4_code
def yX1_at : MethodName := ⟨RX1, "at", "(II)I"⟩
abbrev cX1_xOf : ByteArray := prog_3_method_5_code
def yX1_xOf : MethodName := ⟨RX1, "xOf", "(I)I"⟩
abbrev cX1_yOf : ByteArray := prog_3_method_6_code
def yX1_yOf : MethodName := ⟨RX1, "yOf", "(I)I"⟩
abbrev cX1_neighbour : ByteArray := prog_3_method_7_code
def yX1_neighbour : MethodName := ⟨RX1, "neighbour", "(II)I"⟩
abbrev cX1_side : ByteArray := prog_3_method_8_code
def yX1_side : MethodName := ⟨RX1, "side", "(II)I"⟩
abbrev cX1_beside : ByteArray := prog_3_method_9_code
def yX1_beside : MethodName := ⟨RX1, "beside", "(III)I"⟩
abbrev cX1_way : ByteArray := prog_3_method_10_code
def yX1_way : MethodName := ⟨RX1, "way", "(II)I"⟩
abbrev cX1_touch : ByteArray := prog_3_method_11_code
def yX1_touch : MethodName := ⟨RX1, "touch", "(II)Z"⟩
abbrev cX1_inRow : ByteArray := prog_3_method_12_code
def yX1_inRow : MethodName := ⟨RX1, "inRow", "(III)Z"⟩
abbrev cX1_isMiddle : ByteArray := prog_3_method_13_code
def yX1_isMiddle : MethodName := ⟨RX1, "isMiddle", "(III)Z"⟩
def RX2 : String := "HoleFair$Lake"
def TX2 : u_T := fun k => match k with
  | 0 => ("HoleFair$Lake", "thick", "[I", true)
  | 1 => ("HoleFair$Lake", "cover", "[I", true)
  | 2 => ("HoleFair$Lake", "gaps", "[I", true)
  | 3 => ("HoleFair$Lake", "warmth", "[I", true)
  | 4 => ("HoleFair$Lake", "holeSquare", "[I", true)
  | 5 => ("HoleFair$Lake", "kind", "[I", true)
  | 6 => ("HoleFair$Lake", "heat", "[I", true)
  | 7 => ("HoleFair$Lake", "smell", "[I", true)
  | 8 => ("HoleFair$Lake", "price", "[I", true)
  | 9 => ("HoleFair$Lake", "holes", "I", false)
  | 10 => ("HoleFair$Lake", "groupSquare", "[I", true)
  | 11 => ("HoleFair$Lake", "groupWeight", "[I", true)
  | 12 => ("HoleFair$Lake", "groups", "I", false)
  | 13 => ("HoleFair$Lake", "minute", "I", false)
  | _ => ("HoleFair$Lake", "x", "I", false)
def tyX2 : Nat → FieldType := fun k => match k with
  | 0 => .array .int
  | 1 => .array .int
  | 2 => .array .int
  | 3 => .array .int
  | 4 => .array .int
  | 5 => .array .int
  | 6 => .array .int
  | 7 => .array .int
  | 8 => .array .int
  | 9 => .int
  | 10 => .array .int
  | 11 => .array .int
  | 12 => .int
  | 13 => .int
  | _ => .int
abbrev wsX20 : List Cond := u_ws RX2 TX2 15
theorem nmX2 : ∀ a, a < 15 → ∀ b, b < 15 → a ≠ b → (TX2 a).2.1 ≠ (TX2 b).2.1 := by decide +kernel
theorem tyX2_ok : ∀ k, k < 15 → parseFieldDescriptor (TX2 k).2.2.1 = some (tyX2 k) := by decide +kernel
abbrev cX2_init : ByteArray := prog_4_method_1_code
def yX2_init : MethodName := ⟨RX2, "<init>", "()V"⟩
abbrev cX2_copyFrom : ByteArray := prog_4_method_2_code
def yX2_copyFrom : MethodName := ⟨RX2, "copyFrom", "(LHoleFair$Lake;)V"⟩
abbrev cX2_hasHole : ByteArray := prog_4_method_3_code
def yX2_hasHole : MethodName := ⟨RX2, "hasHole", "(I)Z"⟩
abbrev cX2_isOpen : ByteArray := prog_4_method_4_code
def yX2_isOpen : MethodName := ⟨RX2, "isOpen", "(I)Z"⟩
abbrev cX2_allOpen : ByteArray := prog_4_method_5_code
def yX2_allOpen : MethodName := ⟨RX2, "allOpen", "(I)Z"⟩
abbrev cX2_hasGroup : ByteArray := prog_4_method_6_code
def yX2_hasGroup : MethodName := ⟨RX2, "hasGroup", "(I)Z"⟩
abbrev cX2_isAfloat : ByteArray := prog_4_method_7_code
def yX2_isAfloat : MethodName := ⟨RX2, "isAfloat", "(I)Z"⟩
abbrev cX2_isFirm : ByteArray := prog_4_method_8_code
def yX2_isFirm : MethodName := ⟨RX2, "isFirm", "(I)Z"⟩
abbrev cX2_isBroken : ByteArray := prog_4_method_9_code
def yX2_isBroken : MethodName := ⟨RX2, "isBroken", "(I)Z"⟩
abbrev cX2_isFree : ByteArray := prog_4_method_10_code
def yX2_isFree : MethodName := ⟨RX2, "isFree", "(I)Z"⟩
abbrev cX2_stateOf : ByteArray := prog_4_method_11_code
def yX2_stateOf : MethodName := ⟨RX2, "stateOf", "(I)I"⟩
abbrev cX2_seenAt : ByteArray := prog_4_method_12_code
def yX2_seenAt : MethodName := ⟨RX2, "seenAt", "(I)I"⟩
abbrev cX2_kindAt : ByteArray := prog_4_method_13_code
def yX2_kindAt : MethodName := ⟨RX2, "kindAt", "(I)I"⟩
abbrev cX2_carried : ByteArray := prog_4_method_14_code
def yX2_carried : MethodName := ⟨RX2, "carried", "(I)I"⟩
abbrev cX2_groupsNear : ByteArray := prog_4_method_15_code
def yX2_groupsNear : MethodName := ⟨RX2, "groupsNear", "(I)I"⟩
abbrev cX2_brokenTotal : ByteArray := prog_4_method_16_code
def yX2_brokenTotal : MethodName := ⟨RX2, "brokenTotal", "()I"⟩
abbrev cX2_drownedTotal : ByteArray := prog_4_method_17_code
def yX2_drownedTotal : MethodName := ⟨RX2, "drownedTotal", "()I"⟩
abbrev cX2_openHole : ByteArray := prog_4_method_18_code
def yX2_openHole : MethodName := ⟨RX2, "openHole", "(IIIII)I"⟩
abbrev cX2_closeHole : ByteArray := prog_4_method_19_code
def yX2_closeHole : MethodName := ⟨RX2, "closeHole", "(I)V"⟩
abbrev cX2_addGroup : ByteArray := prog_4_method_20_code
def yX2_addGroup : MethodName := ⟨RX2, "addGroup", "(II)I"⟩
abbrev cX2_breakAt : ByteArray := prog_4_method_21_code
def yX2_breakAt : MethodName := ⟨RX2, "breakAt", "(I)V"⟩
abbrev cX2_mend : ByteArray := prog_4_method_22_code
def yX2_mend : MethodName := ⟨RX2, "mend", "(I)V"⟩
abbrev cX2_raise : ByteArray := prog_4_method_23_code
def yX2_raise : MethodName := ⟨RX2, "raise", "(ILHoleFair$Lake;)V"⟩
abbrev cX2_spread : ByteArray := prog_4_method_24_code
def yX2_spread : MethodName := ⟨RX2, "spread", "(III)V"⟩
abbrev cX2_makesRow : ByteArray := prog_4_method_25_code
def yX2_makesRow : MethodName := ⟨RX2, "makesRow", "(I)Z"⟩
abbrev cX2_isHole : ByteArray := prog_4_method_26_code
def yX2_isHole : MethodName := ⟨RX2, "isHole", "(III)Z"⟩
abbrev cX2_isBesideHole : ByteArray := prog_4_method_27_code
def yX2_isBesideHole : MethodName := ⟨RX2, "isBesideHole", "(I)Z"⟩
abbrev cX2_stepGroup : ByteArray := prog_4_method_28_code
def yX2_stepGroup : MethodName := ⟨RX2, "stepGroup", "(III)Z"⟩
abbrev cX2_drift : ByteArray := prog_4_method_29_code
def yX2_drift : MethodName := ⟨RX2, "drift", "()V"⟩
def RX3 : String := "HoleFair$Law"
def TX3 : u_T := fun k => match k with
  | 0 => ("HoleFair$Law", "operation", "[I", true)
  | 1 => ("HoleFair$Law", "operand", "[I", true)
  | 2 => ("HoleFair$Law", "size", "I", false)
  | 3 => ("HoleFair$Law", "letterOf", "[I", true)
  | 4 => ("HoleFair$Law", "worthStart", "[I", true)
  | 5 => ("HoleFair$Law", "holdsStart", "[I", true)
  | 6 => ("HoleFair$Law", "clauses", "I", false)
  | 7 => ("HoleFair$Law", "value", "[I", true)
  | 8 => ("HoleFair$Law", "stack", "[I", true)
  | _ => ("HoleFair$Law", "refused", "Z", false)
def tyX3 : Nat → FieldType := fun k => match k with
  | 0 => .array .int
  | 1 => .array .int
  | 2 => .int
  | 3 => .array .int
  | 4 => .array .int
  | 5 => .array .int
  | 6 => .int
  | 7 => .array .int
  | 8 => .array .int
  | _ => .boolean
abbrev wsX30 : List Cond := u_ws RX3 TX3 10
theorem nmX3 : ∀ a, a < 10 → ∀ b, b < 10 → a ≠ b → (TX3 a).2.1 ≠ (TX3 b).2.1 := by decide +kernel
theorem tyX3_ok : ∀ k, k < 10 → parseFieldDescriptor (TX3 k).2.2.1 = some (tyX3 k) := by decide +kernel
abbrev cX3_init : ByteArray := prog_5_method_1_code
def yX3_init : MethodName := ⟨RX3, "<init>", "()V"⟩
abbrev cX3_clear : ByteArray := prog_5_method_2_code
def yX3_clear : MethodName := ⟨RX3, "clear", "()V"⟩
abbrev cX3_beginClause : ByteArray := prog_5_method_3_code
def yX3_beginClause : MethodName := ⟨RX3, "beginClause", "(I)V"⟩
abbrev cX3_beginCondition : ByteArray := prog_5_method_4_code
def yX3_beginCondition : MethodName := ⟨RX3, "beginCondition", "()V"⟩
abbrev cX3_put : ByteArray := prog_5_method_5_code
def yX3_put : MethodName := ⟨RX3, "put", "(II)I"⟩
abbrev cX3_landHere : ByteArray := prog_5_method_6_code
def yX3_landHere : MethodName := ⟨RX3, "landHere", "(I)V"⟩
abbrev cX3_has : ByteArray := prog_5_method_7_code
def yX3_has : MethodName := ⟨RX3, "has", "(I)Z"⟩
abbrev cX3_lookAt : ByteArray := prog_5_method_8_code
def yX3_lookAt : MethodName := ⟨RX3, "lookAt", "(LHoleFair$Lake;II)V"⟩
abbrev cX3_lookLater : ByteArray := prog_5_method_9_code
def yX3_lookLater : MethodName := ⟨RX3, "lookLater", "(II)V"⟩
abbrev cX3_lookFrom : ByteArray := prog_5_method_10_code
def yX3_lookFrom : MethodName := ⟨RX3, "lookFrom", "(LHoleFair$Lake;II)V"⟩
abbrev cX3_says : ByteArray := prog_5_method_11_code
def yX3_says : MethodName := ⟨RX3, "says", "(II)I"⟩
abbrev cX3_reckon : ByteArray := prog_5_method_12_code
def yX3_reckon : MethodName := ⟨RX3, "reckon", "(I)I"⟩
abbrev cX3_valueOf : ByteArray := prog_5_method_13_code
def yX3_valueOf : MethodName := ⟨RX3, "valueOf", "(I)I"⟩
abbrev cX3_join : ByteArray := prog_5_method_14_code
def yX3_join : MethodName := ⟨RX3, "join", "(III)I"⟩
def RX4 : String := "HoleFair$LawReader"
def TX4 : u_T := fun k => match k with
  | 0 => ("HoleFair$LawReader", "text", "LHoleFair$Tape;", true)
  | 1 => ("HoleFair$LawReader", "draft", "LHoleFair$Law;", false)
  | 2 => ("HoleFair$LawReader", "size", "I", false)
  | 3 => ("HoleFair$LawReader", "at", "I", false)
  | _ => ("HoleFair$LawReader", "fault", "I", false)
def tyX4 : Nat → FieldType := fun k => match k with
  | 0 => .object "HoleFair$Tape"
  | 1 => .object "HoleFair$Law"
  | 2 => .int
  | 3 => .int
  | _ => .int
abbrev wsX40 : List Cond := u_ws RX4 TX4 5
theorem nmX4 : ∀ a, a < 5 → ∀ b, b < 5 → a ≠ b → (TX4 a).2.1 ≠ (TX4 b).2.1 := by decide +kernel
theorem tyX4_ok : ∀ k, k < 5 → parseFieldDescriptor (TX4 k).2.2.1 = some (tyX4 k) := by decide +kernel
abbrev cX4_init : ByteArray := prog_6_method_1_code
def yX4_init : MethodName := ⟨RX4, "<init>", "(LHoleFair$Tape;)V"⟩
abbrev cX4_handOver : ByteArray := prog_6_method_2_code
def yX4_handOver : MethodName := ⟨RX4, "handOver", "(LHoleFair$Law;)LHoleFair$Law;"⟩
abbrev cX4_read : ByteArray := prog_6_method_3_code
def yX4_read : MethodName := ⟨RX4, "read", "(I)I"⟩
abbrev cX4_letterOfClause : ByteArray := prog_6_method_4_code
def yX4_letterOfClause : MethodName := ⟨RX4, "letterOfClause", "(I)V"⟩
abbrev cX4_condition : ByteArray := prog_6_method_5_code
def yX4_condition : MethodName := ⟨RX4, "condition", "(I)V"⟩
abbrev cX4_piece : ByteArray := prog_6_method_6_code
def yX4_piece : MethodName := ⟨RX4, "piece", "(I)V"⟩
abbrev cX4_expression : ByteArray := prog_6_method_7_code
def yX4_expression : MethodName := ⟨RX4, "expression", "(I)V"⟩
abbrev cX4_factor : ByteArray := prog_6_method_8_code
def yX4_factor : MethodName := ⟨RX4, "factor", "(I)V"⟩
abbrev cX4_letter : ByteArray := prog_6_method_9_code
def yX4_letter : MethodName := ⟨RX4, "letter", "(I)V"⟩
abbrev cX4_number : ByteArray := prog_6_method_10_code
def yX4_number : MethodName := ⟨RX4, "number", "()V"⟩
abbrev cX4_enter : ByteArray := prog_6_method_11_code
def yX4_enter : MethodName := ⟨RX4, "enter", "(I)Z"⟩
abbrev cX4_take : ByteArray := prog_6_method_12_code
def yX4_take : MethodName := ⟨RX4, "take", "(I)V"⟩
abbrev cX4_blame : ByteArray := prog_6_method_13_code
def yX4_blame : MethodName := ⟨RX4, "blame", "(I)V"⟩
abbrev cX4_next : ByteArray := prog_6_method_14_code
def yX4_next : MethodName := ⟨RX4, "next", "()I"⟩
abbrev cX4_isDigit : ByteArray := prog_6_method_15_code
def yX4_isDigit : MethodName := ⟨RX4, "isDigit", "(I)Z"⟩
def RX5 : String := "HoleFair$Nature"
def TX5 : u_T := fun k => match k with
  | 0 => ("HoleFair$Nature", "law", "LHoleFair$Law;", false)
  | _ => ("HoleFair$Nature", "overloaded", "[I", true)
def tyX5 : Nat → FieldType := fun k => match k with
  | 0 => .object "HoleFair$Law"
  | _ => .array .int
abbrev wsX50 : List Cond := u_ws RX5 TX5 2
theorem nmX5 : ∀ a, a < 2 → ∀ b, b < 2 → a ≠ b → (TX5 a).2.1 ≠ (TX5 b).2.1 := by decide +kernel
theorem tyX5_ok : ∀ k, k < 2 → parseFieldDescriptor (TX5 k).2.2.1 = some (tyX5 k) := by decide +kernel
abbrev cX5_init : ByteArray := prog_7_method_1_code
def yX5_init : MethodName := ⟨RX5, "<init>", "()V"⟩
abbrev cX5_bears : ByteArray := prog_7_method_2_code
def yX5_bears : MethodName := ⟨RX5, "bears", "(LHoleFair$Lake;I)I"⟩
abbrev cX5_allows : ByteArray := prog_7_method_3_code
def yX5_allows : MethodName := ⟨RX5, "allows", "(LHoleFair$Lake;II)Z"⟩
abbrev cX5_pull : ByteArray := prog_7_method_4_code
def yX5_pull : MethodName := ⟨RX5, "pull", "(LHoleFair$Lake;II)I"⟩
abbrev cX5_strongest : ByteArray := prog_7_method_5_code
def yX5_strongest : MethodName := ⟨RX5, "strongest", "(LHoleFair$Lake;I)I"⟩
abbrev cX5_pass : ByteArray := prog_7_method_6_code
def yX5_pass : MethodName := ⟨RX5, "pass", "(LHoleFair$Lake;I)I"⟩
abbrev cX5_thaw : ByteArray := prog_7_method_7_code
def yX5_thaw : MethodName := ⟨RX5, "thaw", "(LHoleFair$Lake;)V"⟩
abbrev cX5_walk : ByteArray := prog_7_method_8_code
def yX5_walk : MethodName := ⟨RX5, "walk", "(LHoleFair$Lake;II)V"⟩
abbrev cX5_settleAll : ByteArray := prog_7_method_9_code
def yX5_settleAll : MethodName := ⟨RX5, "settleAll", "(LHoleFair$Lake;)I"⟩
abbrev cX5_findOverloaded : ByteArray := prog_7_method_10_code
def yX5_findOverloaded : MethodName := ⟨RX5, "findOverloaded", "(LHoleFair$Lake;)I"⟩
abbrev cX5_isListed : ByteArray := prog_7_method_11_code
def yX5_isListed : MethodName := ⟨RX5, "isListed", "(II)Z"⟩
abbrev cX5_fellsJust : ByteArray := prog_7_method_12_code
def yX5_fellsJust : MethodName := ⟨RX5, "fellsJust", "(LHoleFair$Lake;ILHoleFair$Told;)Z"⟩
abbrev cX5_soundTime : ByteArray := prog_7_method_13_code
def yX5_soundTime : MethodName := ⟨RX5, "soundTime", "(LHoleFair$Lake;II)I"⟩
abbrev cX5_bearingTime : ByteArray := prog_7_method_14_code
def yX5_bearingTime : MethodName := ⟨RX5, "bearingTime", "(LHoleFair$Lake;III)I"⟩
def RX6 : String := "HoleFair$Rescue"
def TX6 : u_T := fun k => match k with
  | 0 => ("HoleFair$Rescue", "plank", "[I", true)
  | 1 => ("HoleFair$Rescue", "cost", "[I", true)
  | 2 => ("HoleFair$Rescue", "queue", "[I", true)
  | 3 => ("HoleFair$Rescue", "waits", "[Z", true)
  | _ => ("HoleFair$Rescue", "start", "I", false)
def tyX6 : Nat → FieldType := fun k => match k with
  | 0 => .array .int
  | 1 => .array .int
  | 2 => .array .int
  | 3 => .array .boolean
  | _ => .int
abbrev wsX60 : List Cond := u_ws RX6 TX6 5
theorem nmX6 : ∀ a, a < 5 → ∀ b, b < 5 → a ≠ b → (TX6 a).2.1 ≠ (TX6 b).2.1 := by decide +kernel
theorem tyX6_ok : ∀ k, k < 5 → parseFieldDescriptor (TX6 k).2.2.1 = some (tyX6 k) := by decide +kernel
abbrev cX6_init : ByteArray := prog_8_method_1_code
def yX6_init : MethodName := ⟨RX6, "<init>", "()V"⟩
abbrev cX6_solve : ByteArray := prog_8_method_2_code
def yX6_solve : MethodName := ⟨RX6, "solve", "(LHoleFair$Lake;LHoleFair$Nature;III)Z"⟩
abbrev cX6_planksAt : ByteArray := prog_8_method_3_code
def yX6_planksAt : MethodName := ⟨RX6, "planksAt", "(LHoleFair$Lake;LHoleFair$Nature;II)I"⟩
abbrev cX6_spreadFrom : ByteArray := prog_8_method_4_code
def yX6_spreadFrom : MethodName := ⟨RX6, "spreadFrom", "(I)V"⟩
abbrev cX6_isBettered : ByteArray := prog_8_method_5_code
def yX6_isBettered : MethodName := ⟨RX6, "isBettered", "(II)Z"⟩
abbrev cX6_planks : ByteArray := prog_8_method_6_code
def yX6_planks : MethodName := ⟨RX6, "planks", "()I"⟩
abbrev cX6_steps : ByteArray := prog_8_method_7_code
def yX6_steps : MethodName := ⟨RX6, "steps", "()I"⟩
abbrev cX6_squareAt : ByteArray := prog_8_method_8_code
def yX6_squareAt : MethodName := ⟨RX6, "squareAt", "(I)I"⟩
abbrev cX6_nextFrom : ByteArray := prog_8_method_9_code
def yX6_nextFrom : MethodName := ⟨RX6, "nextFrom", "(I)I"⟩
def RX7 : String := "HoleFair$Sites"
def TX7 : u_T := fun k => match k with
  | 0 => ("HoleFair$Sites", "worth", "[I", true)
  | 1 => ("HoleFair$Sites", "usable", "[Z", true)
  | 2 => ("HoleFair$Sites", "rows", "[I", true)
  | _ => ("HoleFair$Sites", "barred", "[I", true)
def tyX7 : Nat → FieldType := fun k => match k with
  | 0 => .array .int
  | 1 => .array .boolean
  | 2 => .array .int
  | _ => .array .int
abbrev wsX70 : List Cond := u_ws RX7 TX7 4
theorem nmX7 : ∀ a, a < 4 → ∀ b, b < 4 → a ≠ b → (TX7 a).2.1 ≠ (TX7 b).2.1 := by decide +kernel
theorem tyX7_ok : ∀ k, k < 4 → parseFieldDescriptor (TX7 k).2.2.1 = some (tyX7 k) := by decide +kernel
abbrev cX7_init : ByteArray := prog_9_method_1_code
def yX7_init : MethodName := ⟨RX7, "<init>", "()V"⟩
abbrev cX7_worthOf : ByteArray := prog_9_method_2_code
def yX7_worthOf : MethodName := ⟨RX7, "worthOf", "(I)I"⟩
abbrev cX7_best : ByteArray := prog_9_method_3_code
def yX7_best : MethodName := ⟨RX7, "best", "(LHoleFair$Lake;LHoleFair$Nature;LHoleFair$Told;)I"⟩
abbrev cX7_bar : ByteArray := prog_9_method_4_code
def yX7_bar : MethodName := ⟨RX7, "bar", "(LHoleFair$Lake;LHoleFair$Told;II)V"⟩
abbrev cX7_isFine : ByteArray := prog_9_method_5_code
def yX7_isFine : MethodName := ⟨RX7, "isFine", "(II)Z"⟩
abbrev cX7_isBetter : ByteArray := prog_9_method_6_code
def yX7_isBetter : MethodName := ⟨RX7, "isBetter", "(II)Z"⟩
def RX8 : String := "HoleFair$Tape"
def TX8 : u_T := fun k => match k with
  | 0 => ("HoleFair$Tape", "bytes", "[I", true)
  | _ => ("HoleFair$Tape", "size", "I", false)
def tyX8 : Nat → FieldType := fun k => match k with
  | 0 => .array .int
  | _ => .int
abbrev wsX80 : List Cond := u_ws RX8 TX8 2
theorem nmX8 : ∀ a, a < 2 → ∀ b, b < 2 → a ≠ b → (TX8 a).2.1 ≠ (TX8 b).2.1 := by decide +kernel
theorem tyX8_ok : ∀ k, k < 2 → parseFieldDescriptor (TX8 k).2.2.1 = some (tyX8 k) := by decide +kernel
abbrev cX8_init : ByteArray := prog_10_method_1_code
def yX8_init : MethodName := ⟨RX8, "<init>", "()V"⟩
abbrev cX8_putInt : ByteArray := prog_10_method_2_code
def yX8_putInt : MethodName := ⟨RX8, "putInt", "(I)V"⟩
abbrev cX8_byteAt : ByteArray := prog_10_method_3_code
def yX8_byteAt : MethodName := ⟨RX8, "byteAt", "(I)I"⟩
abbrev cX8_intAt : ByteArray := prog_10_method_4_code
def yX8_intAt : MethodName := ⟨RX8, "intAt", "(I)I"⟩
def RX9 : String := "HoleFair$Told"
def TX9 : u_T := fun k => match k with
  | 0 => ("HoleFair$Told", "square", "[I", true)
  | 1 => ("HoleFair$Told", "worth", "[I", true)
  | _ => ("HoleFair$Told", "total", "I", false)
def tyX9 : Nat → FieldType := fun k => match k with
  | 0 => .array .int
  | 1 => .array .int
  | _ => .int
abbrev wsX90 : List Cond := u_ws RX9 TX9 3
theorem nmX9 : ∀ a, a < 3 → ∀ b, b < 3 → a ≠ b → (TX9 a).2.1 ≠ (TX9 b).2.1 := by decide +kernel
theorem tyX9_ok : ∀ k, k < 3 → parseFieldDescriptor (TX9 k).2.2.1 = some (tyX9 k) := by decide +kernel
abbrev cX9_init : ByteArray := prog_11_method_1_code
def yX9_init : MethodName := ⟨RX9, "<init>", "()V"⟩
abbrev cX9_readSquares : ByteArray := prog_11_method_2_code
def yX9_readSquares : MethodName := ⟨RX9, "readSquares", "(LHoleFair$Tape;I)V"⟩
abbrev cX9_readPairs : ByteArray := prog_11_method_3_code
def yX9_readPairs : MethodName := ⟨RX9, "readPairs", "(LHoleFair$Tape;I)V"⟩
abbrev cX9_hasTwice : ByteArray := prog_11_method_4_code
def yX9_hasTwice : MethodName := ⟨RX9, "hasTwice", "()Z"⟩
abbrev cX9_allFirm : ByteArray := prog_11_method_5_code
def yX9_allFirm : MethodName := ⟨RX9, "allFirm", "(LHoleFair$Lake;)Z"⟩
abbrev cX9_allBroken : ByteArray := prog_11_method_6_code
def yX9_allBroken : MethodName := ⟨RX9, "allBroken", "(LHoleFair$Lake;)Z"⟩
def RX10 : String := "HoleFair"
def TX10 : u_T := fun k => match k with
  | 0 => ("HoleFair", "now", "LHoleFair$Lake;", true)
  | 1 => ("HoleFair", "kept", "LHoleFair$Lake;", true)
  | 2 => ("HoleFair", "trial", "LHoleFair$Lake;", true)
  | 3 => ("HoleFair", "tape", "LHoleFair$Tape;", true)
  | 4 => ("HoleFair", "told", "LHoleFair$Told;", true)
  | 5 => ("HoleFair", "nature", "LHoleFair$Nature;", true)
  | 6 => ("HoleFair", "reader", "LHoleFair$LawReader;", true)
  | 7 => ("HoleFair", "sites", "LHoleFair$Sites;", true)
  | 8 => ("HoleFair", "order", "LHoleFair$Closing;", true)
  | 9 => ("HoleFair", "way", "LHoleFair$Rescue;", true)
  | _ => ("HoleFair", "hasKept", "Z", false)
def tyX10 : Nat → FieldType := fun k => match k with
  | 0 => .object "HoleFair$Lake"
  | 1 => .object "HoleFair$Lake"
  | 2 => .object "HoleFair$Lake"
  | 3 => .object "HoleFair$Tape"
  | 4 => .object "HoleFair$Told"
  | 5 => .object "HoleFair$Nature"
  | 6 => .object "HoleFair$LawReader"
  | 7 => .object "HoleFair$Sites"
  | 8 => .object "HoleFair$Closing"
  | 9 => .object "HoleFair$Rescue"
  | _ => .boolean
abbrev wsX100 : List Cond := u_ws RX10 TX10 11
theorem nmX10 : ∀ a, a < 11 → ∀ b, b < 11 → a ≠ b → (TX10 a).2.1 ≠ (TX10 b).2.1 := by decide +kernel
theorem tyX10_ok : ∀ k, k < 11 → parseFieldDescriptor (TX10 k).2.2.1 = some (tyX10 k) := by decide +kernel
abbrev cX10_init : ByteArray := prog_1_method_1_code
def yX10_init : MethodName := ⟨RX10, "<init>", "()V"⟩
abbrev cX10_ice : ByteArray := prog_1_method_2_code
def yX10_ice : MethodName := ⟨RX10, "ice", "(III)Z"⟩
abbrev cX10_feed : ByteArray := prog_1_method_3_code
def yX10_feed : MethodName := ⟨RX10, "feed", "(IIIII)I"⟩
abbrev cX10_law : ByteArray := prog_1_method_4_code
def yX10_law : MethodName := ⟨RX10, "law", "(I)I"⟩
abbrev cX10_cut : ByteArray := prog_1_method_5_code
def yX10_cut : MethodName := ⟨RX10, "cut", "(IIIIII)I"⟩
abbrev cX10_shut : ByteArray := prog_1_method_6_code
def yX10_shut : MethodName := ⟨RX10, "shut", "(I)Z"⟩
abbrev cX10_group : ByteArray := prog_1_method_7_code
def yX10_group : MethodName := ⟨RX10, "group", "(III)I"⟩
abbrev cX10_settle : ByteArray := prog_1_method_8_code
def yX10_settle : MethodName := ⟨RX10, "settle", "()I"⟩
abbrev cX10_minutes : ByteArray := prog_1_method_9_code
def yX10_minutes : MethodName := ⟨RX10, "minutes", "(I)I"⟩
abbrev cX10_run : ByteArray := prog_1_method_10_code
def yX10_run : MethodName := ⟨RX10, "run", "(II)I"⟩
abbrev cX10_square : ByteArray := prog_1_method_11_code
def yX10_square : MethodName := ⟨RX10, "square", "(III)I"⟩
abbrev cX10_holeIs : ByteArray := prog_1_method_12_code
def yX10_holeIs : MethodName := ⟨RX10, "holeIs", "(II)I"⟩
abbrev cX10_groupIs : ByteArray := prog_1_method_13_code
def yX10_groupIs : MethodName := ⟨RX10, "groupIs", "(II)I"⟩
abbrev cX10_draws : ByteArray := prog_1_method_14_code
def yX10_draws : MethodName := ⟨RX10, "draws", "(II)I"⟩
abbrev cX10_sound : ByteArray := prog_1_method_15_code
def yX10_sound : MethodName := ⟨RX10, "sound", "(II)I"⟩
abbrev cX10_places : ByteArray := prog_1_method_16_code
def yX10_places : MethodName := ⟨RX10, "places", "(II)I"⟩
abbrev cX10_closing : ByteArray := prog_1_method_17_code
def yX10_closing : MethodName := ⟨RX10, "closing", "(III)I"⟩
abbrev cX10_rescue : ByteArray := prog_1_method_18_code
def yX10_rescue : MethodName := ⟨RX10, "rescue", "(IIII)I"⟩
abbrev cX10_began : ByteArray := prog_1_method_19_code
def yX10_began : MethodName := ⟨RX10, "began", "(II)I"⟩
abbrev cX10_fee : ByteArray := prog_1_method_20_code
def yX10_fee : MethodName := ⟨RX10, "fee", "(III)I"⟩
abbrev cX10_row : ByteArray := prog_1_method_21_code
def yX10_row : MethodName := ⟨RX10, "row", "(II)I"⟩
abbrev cX10_seed : ByteArray := prog_1_method_22_code
def yX10_seed : MethodName := ⟨RX10, "seed", "(I)Z"⟩
abbrev cX10_draw : ByteArray := prog_1_method_23_code
def yX10_draw : MethodName := ⟨RX10, "draw", "(I)I"⟩
abbrev cX10_keep : ByteArray := prog_1_method_24_code
def yX10_keep : MethodName := ⟨RX10, "keep", "()I"⟩
abbrev cX10_undo : ByteArray := prog_1_method_25_code
def yX10_undo : MethodName := ⟨RX10, "undo", "()Z"⟩
abbrev cX10_check : ByteArray := prog_1_method_26_code
def yX10_check : MethodName := ⟨RX10, "check", "(II)I"⟩
abbrev cX10_count : ByteArray := prog_1_method_27_code
def yX10_count : MethodName := ⟨RX10, "count", "(I)I"⟩
abbrev cX10_within : ByteArray := prog_1_method_28_code
def yX10_within : MethodName := ⟨RX10, "within", "(III)Z"⟩
abbrev cX10_firstWrong : ByteArray := prog_1_method_29_code
def yX10_firstWrong : MethodName := ⟨RX10, "firstWrong", "(II)I"⟩
abbrev cX10_feeOf : ByteArray := prog_1_method_30_code
def yX10_feeOf : MethodName := ⟨RX10, "feeOf", "(II)I"⟩
def RX11 : String := "HoleFairModel"
def TX11 : u_T := fun k => match k with
  | 0 => ("HoleFairModel", "tape", "[B", true)
  | 1 => ("HoleFairModel", "taped", "I", false)
  | 2 => ("HoleFairModel", "holes", "I", false)
  | 3 => ("HoleFairModel", "groups", "I", false)
  | 4 => ("HoleFairModel", "minute", "I", false)
  | 5 => ("HoleFairModel", "luck", "I", false)
  | 6 => ("HoleFairModel", "thick", "[I", true)
  | 7 => ("HoleFairModel", "isBroken", "[Z", true)
  | 8 => ("HoleFairModel", "holeAt", "[I", true)
  | 9 => ("HoleFairModel", "holeSquare", "[I", true)
  | 10 => ("HoleFairModel", "holeKind", "[I", true)
  | 11 => ("HoleFairModel", "holeHeat", "[I", true)
  | 12 => ("HoleFairModel", "holeSmell", "[I", true)
  | 13 => ("HoleFairModel", "holePrice", "[I", true)
  | 14 => ("HoleFairModel", "groupAt", "[I", true)
  | 15 => ("HoleFairModel", "groupWeight", "[I", true)
  | 16 => ("HoleFairModel", "clauseMany", "I", false)
  | 17 => ("HoleFairModel", "clauseLetter", "[I", true)
  | 18 => ("HoleFairModel", "sumFrom", "[I", true)
  | 19 => ("HoleFairModel", "codeFrom", "[I", true)
  | 20 => ("HoleFairModel", "codeTo", "[I", true)
  | 21 => ("HoleFairModel", "code", "[I", true)
  | 22 => ("HoleFairModel", "codeArg", "[I", true)
  | 23 => ("HoleFairModel", "newLetter", "[I", true)
  | 24 => ("HoleFairModel", "newSum", "[I", true)
  | 25 => ("HoleFairModel", "newFrom", "[I", true)
  | 26 => ("HoleFairModel", "newTo", "[I", true)
  | 27 => ("HoleFairModel", "newCode", "[I", true)
  | 28 => ("HoleFairModel", "newArg", "[I", true)
  | 29 => ("HoleFairModel", "place", "I", false)
  | 30 => ("HoleFairModel", "end", "I", false)
  | 31 => ("HoleFairModel", "bad", "I", false)
  | 32 => ("HoleFairModel", "clauses", "I", false)
  | 33 => ("HoleFairModel", "codes", "I", false)
  | 34 => ("HoleFairModel", "open", "I", false)
  | 35 => ("HoleFairModel", "stacked", "I", false)
  | 36 => ("HoleFairModel", "isOver", "Z", false)
  | 37 => ("HoleFairModel", "isBehind", "Z", false)
  | 38 => ("HoleFairModel", "stack", "[I", true)
  | 39 => ("HoleFairModel", "atSquare", "I", false)
  | 40 => ("HoleFairModel", "atKind", "I", false)
  | 41 => ("HoleFairModel", "atHole", "I", false)
  | 42 => ("HoleFairModel", "atGroup", "I", false)
  | 43 => ("HoleFairModel", "worths", "[I", true)
  | 44 => ("HoleFairModel", "isRefused", "[Z", true)
  | 45 => ("HoleFairModel", "breaking", "[I", true)
  | 46 => ("HoleFairModel", "thaws", "[I", true)
  | 47 => ("HoleFairModel", "sideThick", "[I", true)
  | 48 => ("HoleFairModel", "sideBroken", "[Z", true)
  | 49 => ("HoleFairModel", "sideHole", "[I", true)
  | 50 => ("HoleFairModel", "sideGroup", "[I", true)
  | 51 => ("HoleFairModel", "sideMinute", "[I", true)
  | 52 => ("HoleFairModel", "toldSquare", "[I", true)
  | 53 => ("HoleFairModel", "toldWorth", "[I", true)
  | 54 => ("HoleFairModel", "toldMany", "I", false)
  | 55 => ("HoleFairModel", "isHoleThen", "[Z", true)
  | 56 => ("HoleFairModel", "soundOf", "[I", true)
  | 57 => ("HoleFairModel", "costYet", "[I", true)
  | 58 => ("HoleFairModel", "takes", "[I", true)
  | 59 => ("HoleFairModel", "planks", "[I", true)
  | 60 => ("HoleFairModel", "isKept", "Z", false)
  | 61 => ("HoleFairModel", "keptHoles", "I", false)
  | 62 => ("HoleFairModel", "keptGroups", "I", false)
  | 63 => ("HoleFairModel", "keptLuck", "I", false)
  | 64 => ("HoleFairModel", "keptSquare", "[I", true)
  | 65 => ("HoleFairModel", "keptKind", "[I", true)
  | 66 => ("HoleFairModel", "keptHeat", "[I", true)
  | 67 => ("HoleFairModel", "keptSmell", "[I", true)
  | 68 => ("HoleFairModel", "keptPrice", "[I", true)
  | _ => ("HoleFairModel", "keptWeight", "[I", true)
def tyX11 : Nat → FieldType := fun k => match k with
  | 0 => .array .byte
  | 1 => .int
  | 2 => .int
  | 3 => .int
  | 4 => .int
  | 5 => .int
  | 6 => .array .int
  | 7 => .array .boolean
  | 8 => .array .int
  | 9 => .array .int
  | 10 => .array .int
  | 11 => .array .int
  | 12 => .array .int
  | 13 => .array .int
  | 14 => .array .int
  | 15 => .array .int
  | 16 => .int
  | 17 => .array .int
  | 18 => .array .int
  | 19 => .array .int
  | 20 => .array .int
  | 21 => .array .int
  | 22 => .array .int
  | 23 => .array .int
  | 24 => .array .int
  | 25 => .array .int
  | 26 => .array .int
  | 27 => .array .int
  | 28 => .array .int
  | 29 => .int
  | 30 => .int
  | 31 => .int
  | 32 => .int
  | 33 => .int
  | 34 => .int
  | 35 => .int
  | 36 => .boolean
  | 37 => .boolean
  | 38 => .array .int
  | 39 => .int
  | 40 => .int
  | 41 => .int
  | 42 => .int
  | 43 => .array .int
  | 44 => .array .boolean
  | 45 => .array .int
  | 46 => .array .int
  | 47 => .array .int
  | 48 => .array .boolean
  | 49 => .array .int
  | 50 => .array .int
  | 51 => .array .int
  | 52 => .array .int
  | 53 => .array .int
  | 54 => .int
  | 55 => .array .boolean
  | 56 => .array .int
  | 57 => .array .int
  | 58 => .array .int
  | 59 => .array .int
  | 60 => .boolean
  | 61 => .int
  | 62 => .int
  | 63 => .int
  | 64 => .array .int
  | 65 => .array .int
  | 66 => .array .int
  | 67 => .array .int
  | 68 => .array .int
  | _ => .array .int
abbrev wsX110 : List Cond := u_ws RX11 TX11 70
theorem nmX11 : ∀ a, a < 70 → ∀ b, b < 70 → a ≠ b → (TX11 a).2.1 ≠ (TX11 b).2.1 := by decide +kernel
theorem tyX11_ok : ∀ k, k < 70 → parseFieldDescriptor (TX11 k).2.2.1 = some (tyX11 k) := by decide +kernel
abbrev cX11_init : ByteArray := prog_13_method_1_code
def yX11_init : MethodName := ⟨RX11, "<init>", "()V"⟩
abbrev cX11_lies : ByteArray := prog_13_method_2_code
def yX11_lies : MethodName := ⟨RX11, "lies", "(JJJ)Z"⟩
abbrev cX11_has : ByteArray := prog_13_method_3_code
def yX11_has : MethodName := ⟨RX11, "has", "(II)Z"⟩
abbrev cX11_sizeOf : ByteArray := prog_13_method_4_code
def yX11_sizeOf : MethodName := ⟨RX11, "sizeOf", "(I)I"⟩
abbrev cX11_isSide : ByteArray := prog_13_method_5_code
def yX11_isSide : MethodName := ⟨RX11, "isSide", "(I)Z"⟩
abbrev cX11_isSquare : ByteArray := prog_13_method_6_code
def yX11_isSquare : MethodName := ⟨RX11, "isSquare", "(II)Z"⟩
abbrev cX11_isHole : ByteArray := prog_13_method_7_code
def yX11_isHole : MethodName := ⟨RX11, "isHole", "(I)Z"⟩
abbrev cX11_isOpen : ByteArray := prog_13_method_8_code
def yX11_isOpen : MethodName := ⟨RX11, "isOpen", "(I)Z"⟩
abbrev cX11_isGroup : ByteArray := prog_13_method_9_code
def yX11_isGroup : MethodName := ⟨RX11, "isGroup", "(I)Z"⟩
abbrev cX11_isIce : ByteArray := prog_13_method_10_code
def yX11_isIce : MethodName := ⟨RX11, "isIce", "(I)Z"⟩
abbrev cX11_size : ByteArray := prog_13_method_11_code
def yX11_size : MethodName := ⟨RX11, "size", "(I)I"⟩
abbrev cX11_wayOf : ByteArray := prog_13_method_12_code
def yX11_wayOf : MethodName := ⟨RX11, "wayOf", "(II)I"⟩
abbrev cX11_aside : ByteArray := prog_13_method_13_code
def yX11_aside : MethodName := ⟨RX11, "aside", "(III)I"⟩
abbrev cX11_areNear : ByteArray := prog_13_method_14_code
def yX11_areNear : MethodName := ⟨RX11, "areNear", "(II)Z"⟩
abbrev cX11_gapsOf : ByteArray := prog_13_method_15_code
def yX11_gapsOf : MethodName := ⟨RX11, "gapsOf", "(I)I"⟩
abbrev cX11_warmthOf : ByteArray := prog_13_method_16_code
def yX11_warmthOf : MethodName := ⟨RX11, "warmthOf", "(I)I"⟩
abbrev cX11_carriedOn : ByteArray := prog_13_method_17_code
def yX11_carriedOn : MethodName := ⟨RX11, "carriedOn", "(I)I"⟩
abbrev cX11_standsOn : ByteArray := prog_13_method_18_code
def yX11_standsOn : MethodName := ⟨RX11, "standsOn", "(I)Z"⟩
abbrev cX11_ice : ByteArray := prog_13_method_19_code
def yX11_ice : MethodName := ⟨RX11, "ice", "(III)Z"⟩
abbrev cX11_push : ByteArray := prog_13_method_20_code
def yX11_push : MethodName := ⟨RX11, "push", "(I)V"⟩
abbrev cX11_feed : ByteArray := prog_13_method_21_code
def yX11_feed : MethodName := ⟨RX11, "feed", "(IIIII)I"⟩
abbrev cX11_byteAt : ByteArray := prog_13_method_22_code
def yX11_byteAt : MethodName := ⟨RX11, "byteAt", "(I)I"⟩
abbrev cX11_here : ByteArray := prog_13_method_23_code
def yX11_here : MethodName := ⟨RX11, "here", "()I"⟩
abbrev cX11_wrongs : ByteArray := prog_13_method_24_code
def yX11_wrongs : MethodName := ⟨RX11, "wrongs", "(II)V"⟩
abbrev cX11_isGood : ByteArray := prog_13_method_25_code
def yX11_isGood : MethodName := ⟨RX11, "isGood", "()Z"⟩
abbrev cX11_emit : ByteArray := prog_13_method_26_code
def yX11_emit : MethodName := ⟨RX11, "emit", "(II)V"⟩
abbrev cX11_top : ByteArray := prog_13_method_27_code
def yX11_top : MethodName := ⟨RX11, "top", "()I"⟩
abbrev cX11_puts : ByteArray := prog_13_method_28_code
def yX11_puts : MethodName := ⟨RX11, "puts", "(I)V"⟩
abbrev cX11_opens : ByteArray := prog_13_method_29_code
def yX11_opens : MethodName := ⟨RX11, "opens", "()V"⟩
abbrev cX11_seesDigit : ByteArray := prog_13_method_30_code
def yX11_seesDigit : MethodName := ⟨RX11, "seesDigit", "()Z"⟩
abbrev cX11_reads : ByteArray := prog_13_method_31_code
def yX11_reads : MethodName := ⟨RX11, "reads", "()I"⟩
abbrev cX11_isTimes : ByteArray := prog_13_method_32_code
def yX11_isTimes : MethodName := ⟨RX11, "isTimes", "(I)Z"⟩
abbrev cX11_isPlus : ByteArray := prog_13_method_33_code
def yX11_isPlus : MethodName := ⟨RX11, "isPlus", "(I)Z"⟩
abbrev cX11_isSign : ByteArray := prog_13_method_34_code
def yX11_isSign : MethodName := ⟨RX11, "isSign", "(I)Z"⟩
abbrev cX11_isValue : ByteArray := prog_13_method_35_code
def yX11_isValue : MethodName := ⟨RX11, "isValue", "(I)Z"⟩
abbrev cX11_sums : ByteArray := prog_13_method_36_code
def yX11_sums : MethodName := ⟨RX11, "sums", "(Z)V"⟩
abbrev cX11_joins : ByteArray := prog_13_method_37_code
def yX11_joins : MethodName := ⟨RX11, "joins", "(Z)V"⟩
abbrev cX11_ends : ByteArray := prog_13_method_38_code
def yX11_ends : MethodName := ⟨RX11, "ends", "()V"⟩
abbrev cX11_factor : ByteArray := prog_13_method_39_code
def yX11_factor : MethodName := ⟨RX11, "factor", "()V"⟩
abbrev cX11_stays : ByteArray := prog_13_method_40_code
def yX11_stays : MethodName := ⟨RX11, "stays", "()Z"⟩
abbrev cX11_value : ByteArray := prog_13_method_41_code
def yX11_value : MethodName := ⟨RX11, "value", "()V"⟩
abbrev cX11_pieceOfC : ByteArray := prog_13_method_42_code
def yX11_pieceOfC : MethodName := ⟨RX11, "pieceOfC", "()V"⟩
abbrev cX11_goesBehind : ByteArray := prog_13_method_43_code
def yX11_goesBehind : MethodName := ⟨RX11, "goesBehind", "()Z"⟩
abbrev cX11_condition : ByteArray := prog_13_method_44_code
def yX11_condition : MethodName := ⟨RX11, "condition", "()V"⟩
abbrev cX11_clause : ByteArray := prog_13_method_45_code
def yX11_clause : MethodName := ⟨RX11, "clause", "()V"⟩
abbrev cX11_law : ByteArray := prog_13_method_46_code
def yX11_law : MethodName := ⟨RX11, "law", "(I)I"⟩
abbrev cX11_nearGroups : ByteArray := prog_13_method_47_code
def yX11_nearGroups : MethodName := ⟨RX11, "nearGroups", "(I)I"⟩
abbrev cX11_drawnBy : ByteArray := prog_13_method_48_code
def yX11_drawnBy : MethodName := ⟨RX11, "drawnBy", "(I)I"⟩
abbrev cX11_valueOf : ByteArray := prog_13_method_49_code
def yX11_valueOf : MethodName := ⟨RX11, "valueOf", "(I)I"⟩
abbrev cX11_worked : ByteArray := prog_13_method_50_code
def yX11_worked : MethodName := ⟨RX11, "worked", "(III)I"⟩
abbrev cX11_does : ByteArray := prog_13_method_51_code
def yX11_does : MethodName := ⟨RX11, "does", "(II)V"⟩
abbrev cX11_works : ByteArray := prog_13_method_52_code
def yX11_works : MethodName := ⟨RX11, "works", "(II)V"⟩
abbrev cX11_tells : ByteArray := prog_13_method_53_code
def yX11_tells : MethodName := ⟨RX11, "tells", "(II)I"⟩
abbrev cX11_bySquare : ByteArray := prog_13_method_54_code
def yX11_bySquare : MethodName := ⟨RX11, "bySquare", "(IIII)I"⟩
abbrev cX11_kindOn : ByteArray := prog_13_method_55_code
def yX11_kindOn : MethodName := ⟨RX11, "kindOn", "(I)I"⟩
abbrev cX11_bears : ByteArray := prog_13_method_56_code
def yX11_bears : MethodName := ⟨RX11, "bears", "(I)I"⟩
abbrev cX11_mayCut : ByteArray := prog_13_method_57_code
def yX11_mayCut : MethodName := ⟨RX11, "mayCut", "(II)Z"⟩
abbrev cX11_drawOf : ByteArray := prog_13_method_58_code
def yX11_drawOf : MethodName := ⟨RX11, "drawOf", "(II)I"⟩
abbrev cX11_isOpenAt : ByteArray := prog_13_method_59_code
def yX11_isOpenAt : MethodName := ⟨RX11, "isOpenAt", "(I)Z"⟩
abbrev cX11_makesRow : ByteArray := prog_13_method_60_code
def yX11_makesRow : MethodName := ⟨RX11, "makesRow", "(I)Z"⟩
abbrev cX11_isDigit : ByteArray := prog_13_method_61_code
def yX11_isDigit : MethodName := ⟨RX11, "isDigit", "(I)Z"⟩
abbrev cX11_cut : ByteArray := prog_13_method_62_code
def yX11_cut : MethodName := ⟨RX11, "cut", "(IIIIII)I"⟩
abbrev cX11_shut : ByteArray := prog_13_method_63_code
def yX11_shut : MethodName := ⟨RX11, "shut", "(I)Z"⟩
abbrev cX11_group : ByteArray := prog_13_method_64_code
def yX11_group : MethodName := ⟨RX11, "group", "(III)I"⟩
abbrev cX11_drownedMany : ByteArray := prog_13_method_65_code
def yX11_drownedMany : MethodName := ⟨RX11, "drownedMany", "()I"⟩
abbrev cX11_breaks : ByteArray := prog_13_method_66_code
def yX11_breaks : MethodName := ⟨RX11, "breaks", "(I)V"⟩
abbrev cX11_settles : ByteArray := prog_13_method_67_code
def yX11_settles : MethodName := ⟨RX11, "settles", "()I"⟩
abbrev cX11_settle : ByteArray := prog_13_method_68_code
def yX11_settle : MethodName := ⟨RX11, "settle", "()I"⟩
abbrev cX11_thawsAll : ByteArray := prog_13_method_69_code
def yX11_thawsAll : MethodName := ⟨RX11, "thawsAll", "()V"⟩
abbrev cX11_drawnTo : ByteArray := prog_13_method_70_code
def yX11_drawnTo : MethodName := ⟨RX11, "drawnTo", "(I)I"⟩
abbrev cX11_signOf : ByteArray := prog_13_method_71_code
def yX11_signOf : MethodName := ⟨RX11, "signOf", "(I)I"⟩
abbrev cX11_goes : ByteArray := prog_13_method_72_code
def yX11_goes : MethodName := ⟨RX11, "goes", "(I)V"⟩
abbrev cX11_minuteOne : ByteArray := prog_13_method_73_code
def yX11_minuteOne : MethodName := ⟨RX11, "minuteOne", "()V"⟩
abbrev cX11_isHour : ByteArray := prog_13_method_74_code
def yX11_isHour : MethodName := ⟨RX11, "isHour", "(I)Z"⟩
abbrev cX11_minutes : ByteArray := prog_13_method_75_code
def yX11_minutes : MethodName := ⟨RX11, "minutes", "(I)I"⟩
abbrev cX11_setsAside : ByteArray := prog_13_method_76_code
def yX11_setsAside : MethodName := ⟨RX11, "setsAside", "(I)V"⟩
abbrev cX11_putsBack : ByteArray := prog_13_method_77_code
def yX11_putsBack : MethodName := ⟨RX11, "putsBack", "(I)V"⟩
abbrev cX11_brokenMany : ByteArray := prog_13_method_78_code
def yX11_brokenMany : MethodName := ⟨RX11, "brokenMany", "()I"⟩
abbrev cX11_run : ByteArray := prog_13_method_79_code
def yX11_run : MethodName := ⟨RX11, "run", "(II)I"⟩
abbrev cX11_square : ByteArray := prog_13_method_80_code
def yX11_square : MethodName := ⟨RX11, "square", "(III)I"⟩
abbrev cX11_holeIs : ByteArray := prog_13_method_81_code
def yX11_holeIs : MethodName := ⟨RX11, "holeIs", "(II)I"⟩
abbrev cX11_groupIs : ByteArray := prog_13_method_82_code
def yX11_groupIs : MethodName := ⟨RX11, "groupIs", "(II)I"⟩
abbrev cX11_draws : ByteArray := prog_13_method_83_code
def yX11_draws : MethodName := ⟨RX11, "draws", "(II)I"⟩
abbrev cX11_isLoad : ByteArray := prog_13_method_84_code
def yX11_isLoad : MethodName := ⟨RX11, "isLoad", "(I)Z"⟩
abbrev cX11_isSound : ByteArray := prog_13_method_85_code
def yX11_isSound : MethodName := ⟨RX11, "isSound", "(II)Z"⟩
abbrev cX11_soundFor : ByteArray := prog_13_method_86_code
def yX11_soundFor : MethodName := ⟨RX11, "soundFor", "(II)I"⟩
abbrev cX11_sound : ByteArray := prog_13_method_87_code
def yX11_sound : MethodName := ⟨RX11, "sound", "(II)I"⟩
abbrev cX11_takesTwos : ByteArray := prog_13_method_88_code
def yX11_takesTwos : MethodName := ⟨RX11, "takesTwos", "(I)Z"⟩
abbrev cX11_isTwice : ByteArray := prog_13_method_89_code
def yX11_isTwice : MethodName := ⟨RX11, "isTwice", "()Z"⟩
abbrev cX11_isFineAlone : ByteArray := prog_13_method_90_code
def yX11_isFineAlone : MethodName := ⟨RX11, "isFineAlone", "(I)Z"⟩
abbrev cX11_isThen : ByteArray := prog_13_method_91_code
def yX11_isThen : MethodName := ⟨RX11, "isThen", "(I)Z"⟩
abbrev cX11_hasNewRow : ByteArray := prog_13_method_92_code
def yX11_hasNewRow : MethodName := ⟨RX11, "hasNewRow", "(I)Z"⟩
abbrev cX11_isFine : ByteArray := prog_13_method_93_code
def yX11_isFine : MethodName := ⟨RX11, "isFine", "(II)Z"⟩
abbrev cX11_worthOf : ByteArray := prog_13_method_94_code
def yX11_worthOf : MethodName := ⟨RX11, "worthOf", "(I)I"⟩
abbrev cX11_places : ByteArray := prog_13_method_95_code
def yX11_places : MethodName := ⟨RX11, "places", "(II)I"⟩
abbrev cX11_timeOf : ByteArray := prog_13_method_96_code
def yX11_timeOf : MethodName := ⟨RX11, "timeOf", "(I)I"⟩
abbrev cX11_costBy : ByteArray := prog_13_method_97_code
def yX11_costBy : MethodName := ⟨RX11, "costBy", "(II)I"⟩
abbrev cX11_closing : ByteArray := prog_13_method_98_code
def yX11_closing : MethodName := ⟨RX11, "closing", "(III)I"⟩
abbrev cX11_beside : ByteArray := prog_13_method_99_code
def yX11_beside : MethodName := ⟨RX11, "beside", "(II)I"⟩
abbrev cX11_takesBy : ByteArray := prog_13_method_100_code
def yX11_takesBy : MethodName := ⟨RX11, "takesBy", "(II)I"⟩
abbrev cX11_laysTakes : ByteArray := prog_13_method_101_code
def yX11_laysTakes : MethodName := ⟨RX11, "laysTakes", "(II)V"⟩
abbrev cX11_rescue : ByteArray := prog_13_method_102_code
def yX11_rescue : MethodName := ⟨RX11, "rescue", "(IIII)I"⟩
abbrev cX11_brokeJust : ByteArray := prog_13_method_103_code
def yX11_brokeJust : MethodName := ⟨RX11, "brokeJust", "(I)Z"⟩
abbrev cX11_began : ByteArray := prog_13_method_104_code
def yX11_began : MethodName := ⟨RX11, "began", "(II)I"⟩
abbrev cX11_fee : ByteArray := prog_13_method_105_code
def yX11_fee : MethodName := ⟨RX11, "fee", "(III)I"⟩
abbrev cX11_row : ByteArray := prog_13_method_106_code
def yX11_row : MethodName := ⟨RX11, "row", "(II)I"⟩
abbrev cX11_seed : ByteArray := prog_13_method_107_code
def yX11_seed : MethodName := ⟨RX11, "seed", "(I)Z"⟩
abbrev cX11_wanders : ByteArray := prog_13_method_108_code
def yX11_wanders : MethodName := ⟨RX11, "wanders", "(II)V"⟩
abbrev cX11_draw : ByteArray := prog_13_method_109_code
def yX11_draw : MethodName := ⟨RX11, "draw", "(I)I"⟩
abbrev cX11_keep : ByteArray := prog_13_method_110_code
def yX11_keep : MethodName := ⟨RX11, "keep", "()I"⟩
abbrev cX11_undo : ByteArray := prog_13_method_111_code
def yX11_undo : MethodName := ⟨RX11, "undo", "()Z"⟩
abbrev cX11_numberAt : ByteArray := prog_13_method_112_code
def yX11_numberAt : MethodName := ⟨RX11, "numberAt", "(I)I"⟩
abbrev cX11_check : ByteArray := prog_13_method_113_code
def yX11_check : MethodName := ⟨RX11, "check", "(II)I"⟩
abbrev cX11_count : ByteArray := prog_13_method_114_code
def yX11_count : MethodName := ⟨RX11, "count", "(I)I"⟩
def RJ11 : String := "java/lang/Character"
def TJ11 : u_T := fun k => match k with
  | _ => ("", "", "", false)
def tyJ11 : Nat → FieldType := fun k => match k with
  | _ => .int
abbrev wsJ110 : List Cond := u_ws RJ11 TJ11 0
theorem nmJ11 : ∀ a, a < 0 → ∀ b, b < 0 → a ≠ b → (TJ11 a).2.1 ≠ (TJ11 b).2.1 := by decide +kernel
theorem tyJ11_ok : ∀ k, k < 0 → parseFieldDescriptor (TJ11 k).2.2.1 = some (tyJ11 k) := by decide +kernel
abbrev cJ11_isValidCodePoint_9a6ad : ByteArray := prog_14_method_11_code
def yJ11_isValidCodePoint_9a6ad : MethodName := ⟨RJ11, "isValidCodePoint", "(I)Z"⟩
abbrev cJ11_highSurrogate_5068e : ByteArray := prog_14_method_28_code
def yJ11_highSurrogate_5068e : MethodName := ⟨RJ11, "highSurrogate", "(I)C"⟩
abbrev cJ11_lowSurrogate_5068e : ByteArray := prog_14_method_29_code
def yJ11_lowSurrogate_5068e : MethodName := ⟨RJ11, "lowSurrogate", "(I)C"⟩
def RJ6 : String := "java/lang/Integer"
def TJ6 : u_T := fun k => match k with
  | _ => ("", "", "", false)
def tyJ6 : Nat → FieldType := fun k => match k with
  | _ => .int
abbrev wsJ60 : List Cond := u_ws RJ6 TJ6 0
theorem nmJ6 : ∀ a, a < 0 → ∀ b, b < 0 → a ≠ b → (TJ6 a).2.1 ≠ (TJ6 b).2.1 := by decide +kernel
theorem tyJ6_ok : ∀ k, k < 0 → parseFieldDescriptor (TJ6 k).2.2.1 = some (tyJ6 k) := by decide +kernel
abbrev cJ6_compare_7cf53 : ByteArray := prog_15_method_40_code
def yJ6_compare_7cf53 : MethodName := ⟨RJ6, "compare", "(II)I"⟩
abbrev cJ6_bitCount_0f7a4 : ByteArray := prog_15_method_49_code
def yJ6_bitCount_0f7a4 : MethodName := ⟨RJ6, "bitCount", "(I)I"⟩
def RJ9 : String := "java/lang/Math"
def TJ9 : u_T := fun k => match k with
  | _ => ("", "", "", false)
def tyJ9 : Nat → FieldType := fun k => match k with
  | _ => .int
abbrev wsJ90 : List Cond := u_ws RJ9 TJ9 0
theorem nmJ9 : ∀ a, a < 0 → ∀ b, b < 0 → a ≠ b → (TJ9 a).2.1 ≠ (TJ9 b).2.1 := by decide +kernel
theorem tyJ9_ok : ∀ k, k < 0 → parseFieldDescriptor (TJ9 k).2.2.1 = some (tyJ9 k) := by decide +kernel
abbrev cJ9_abs_0f7a4 : ByteArray := prog_16_method_59_code
def yJ9_abs_0f7a4 : MethodName := ⟨RJ9, "abs", "(I)I"⟩
abbrev cJ9_max_7cf53 : ByteArray := prog_16_method_65_code
def yJ9_max_7cf53 : MethodName := ⟨RJ9, "max", "(II)I"⟩
abbrev cJ9_min_7cf53 : ByteArray := prog_16_method_69_code
def yJ9_min_7cf53 : MethodName := ⟨RJ9, "min", "(II)I"⟩
def RJ0 : String := "java/lang/String"
def TJ0 : u_T := fun k => match k with
  | _ => ("", "", "", false)
def tyJ0 : Nat → FieldType := fun k => match k with
  | _ => .int
abbrev wsJ00 : List Cond := u_ws RJ0 TJ0 0
theorem nmJ0 : ∀ a, a < 0 → ∀ b, b < 0 → a ≠ b → (TJ0 a).2.1 ≠ (TJ0 b).2.1 := by decide +kernel
theorem tyJ0_ok : ∀ k, k < 0 → parseFieldDescriptor (TJ0 k).2.2.1 = some (tyJ0 k) := by decide +kernel
abbrev cJ0_length_8abf5 : ByteArray := prog_17_method_54_code
def yJ0_length_8abf5 : MethodName := ⟨RJ0, "length", "()I"⟩
abbrev cJ0_indexOf_0f7a4 : ByteArray := prog_17_method_79_code
def yJ0_indexOf_0f7a4 : MethodName := ⟨RJ0, "indexOf", "(I)I"⟩
abbrev cJ0_indexOf_7cf53 : ByteArray := prog_17_method_80_code
def yJ0_indexOf_7cf53 : MethodName := ⟨RJ0, "indexOf", "(II)I"⟩
abbrev cJ0_coder_7d493 : ByteArray := prog_17_method_152_code
def yJ0_coder_7d493 : MethodName := ⟨RJ0, "coder", "()B"⟩
abbrev cJ0_isLatin1_aae02 : ByteArray := prog_17_method_154_code
def yJ0_isLatin1_aae02 : MethodName := ⟨RJ0, "isLatin1", "()Z"⟩
abbrev cJ0_checkBoundsBeginEnd_23922 : ByteArray := prog_17_method_158_code
def yJ0_checkBoundsBeginEnd_23922 : MethodName := ⟨RJ0, "checkBoundsBeginEnd", "(III)V"⟩
def RJ1 : String := "java/lang/StringLatin1"
def TJ1 : u_T := fun k => match k with
  | _ => ("", "", "", false)
def tyJ1 : Nat → FieldType := fun k => match k with
  | _ => .int
abbrev wsJ10 : List Cond := u_ws RJ1 TJ1 0
theorem nmJ1 : ∀ a, a < 0 → ∀ b, b < 0 → a ≠ b → (TJ1 a).2.1 ≠ (TJ1 b).2.1 := by decide +kernel
theorem tyJ1_ok : ∀ k, k < 0 → parseFieldDescriptor (TJ1 k).2.2.1 = some (tyJ1 k) := by decide +kernel
abbrev cJ1_canEncode_9a6ad : ByteArray := prog_18_method_4_code
def yJ1_canEncode_9a6ad : MethodName := ⟨RJ1, "canEncode", "(I)Z"⟩
abbrev cJ1_indexOf_4cfef : ByteArray := prog_18_method_22_code
def yJ1_indexOf_4cfef : MethodName := ⟨RJ1, "indexOf", "([BIII)I"⟩
abbrev cJ1_indexOfChar_4cfef : ByteArray := prog_18_method_23_code
def yJ1_indexOfChar_4cfef : MethodName := ⟨RJ1, "indexOfChar", "([BIII)I"⟩
def RJ2 : String := "java/lang/StringUTF16"
def TJ2 : u_T := fun k => match k with
  | _ => ("", "", "", false)
def tyJ2 : Nat → FieldType := fun k => match k with
  | _ => .int
abbrev wsJ20 : List Cond := u_ws RJ2 TJ2 0
theorem nmJ2 : ∀ a, a < 0 → ∀ b, b < 0 → a ≠ b → (TJ2 a).2.1 ≠ (TJ2 b).2.1 := by decide +kernel
theorem tyJ2_ok : ∀ k, k < 0 → parseFieldDescriptor (TJ2 k).2.2.1 = some (tyJ2 k) := by decide +kernel
abbrev cJ2_getChar_3b067 : ByteArray := prog_19_method_5_code
def yJ2_getChar_3b067 : MethodName := ⟨RJ2, "getChar", "([BI)C"⟩
abbrev cJ2_length_9d52b : ByteArray := prog_19_method_6_code
def yJ2_length_9d52b : MethodName := ⟨RJ2, "length", "([B)I"⟩
abbrev cJ2_indexOf_4cfef : ByteArray := prog_19_method_40_code
def yJ2_indexOf_4cfef : MethodName := ⟨RJ2, "indexOf", "([BIII)I"⟩
abbrev cJ2_indexOfChar_4cfef : ByteArray := prog_19_method_47_code
def yJ2_indexOfChar_4cfef : MethodName := ⟨RJ2, "indexOfChar", "([BIII)I"⟩
abbrev cJ2_indexOfCharUnsafe_4cfef : ByteArray := prog_19_method_48_code
def yJ2_indexOfCharUnsafe_4cfef : MethodName := ⟨RJ2, "indexOfCharUnsafe", "([BIII)I"⟩
abbrev cJ2_indexOfSupplementary_4cfef : ByteArray := prog_19_method_49_code
def yJ2_indexOfSupplementary_4cfef : MethodName := ⟨RJ2, "indexOfSupplementary", "([BIII)I"⟩
abbrev cJ2_checkBoundsBeginEnd_d044e : ByteArray := prog_19_method_93_code
def yJ2_checkBoundsBeginEnd_d044e : MethodName := ⟨RJ2, "checkBoundsBeginEnd", "(II[B)V"⟩
def RJ10 : String := "java/lang/System"
def TJ10 : u_T := fun k => match k with
  | _ => ("", "", "", false)
def tyJ10 : Nat → FieldType := fun k => match k with
  | _ => .int
abbrev wsJ100 : List Cond := u_ws RJ10 TJ10 0
theorem nmJ10 : ∀ a, a < 0 → ∀ b, b < 0 → a ≠ b → (TJ10 a).2.1 ≠ (TJ10 b).2.1 := by decide +kernel
theorem tyJ10_ok : ∀ k, k < 0 → parseFieldDescriptor (TJ10 k).2.2.1 = some (tyJ10 k) := by decide +kernel
def RJ3 : String := "jdk/internal/util/Preconditions"
def TJ3 : u_T := fun k => match k with
  | _ => ("", "", "", false)
def tyJ3 : Nat → FieldType := fun k => match k with
  | _ => .int
abbrev wsJ30 : List Cond := u_ws RJ3 TJ3 0
theorem nmJ3 : ∀ a, a < 0 → ∀ b, b < 0 → a ≠ b → (TJ3 a).2.1 ≠ (TJ3 b).2.1 := by decide +kernel
theorem tyJ3_ok : ∀ k, k < 0 → parseFieldDescriptor (TJ3 k).2.2.1 = some (tyJ3 k) := by decide +kernel
abbrev cJ3_checkFromToIndex_8c36e : ByteArray := prog_21_method_12_code
def yJ3_checkFromToIndex_8c36e : MethodName := ⟨RJ3, "checkFromToIndex", "(IIILjava/util/function/BiFunction;)I"⟩
def RL : String := "HoleFairLaw"
abbrev cL_law : ByteArray := code
def yL_law : MethodName := ⟨RL, "law", "([I)Z"⟩
abbrev vwCl : List vw_C := [(RX0, TX0, 7), (RX2, TX2, 15), (RX3, TX3, 10), (RX4, TX4, 5), (RX5, TX5, 2), (RX6, TX6, 5), (RX7, TX7, 4), (RX8, TX8, 2), (RX9, TX9, 3), (RX10, TX10, 11), (RX11, TX11, 70)]
